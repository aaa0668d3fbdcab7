/-! REPORT.md, T1: every start that this claim allows has the class of the arrays of StackTraceElement in its table. -/
def tt_names (n : String) : Jvm.Cond → Bool
  | .and c d => tt_names n c || tt_names n d
  | .not (.castable cls _) => cls == n
  | _ => false
theorem tt_needs (n : String) (a : Array Value) (s : State) (c : Jvm.Cond) : tt_names n c = true → c.before a s = true → (s.vm.findClass n).isSome = true := by
  induction c with
  | and c d ihc ihd =>
    intro h hb
    simp only [tt_names, Bool.or_eq_true] at h
    simp only [Cond.before_and, Bool.and_eq_true] at hb
    cases h with
    | inl h => exact ihc h hb.1
    | inr h => exact ihd h hb.2
  | not c ih =>
    intro h hb
    cases c with
    | castable cls t =>
      simp only [tt_names, beq_iff_eq] at h
      subst h
      cases hf : s.vm.findClass cls with
      | some k => rfl
      | none => simp [Cond.before, Cond.holds, Cond.value, hf] at hb
    | _ => simp [tt_names] at h
  | _ => intro h; simp [tt_names] at h
theorem tt_narrow_2 : tt_names "[Ljava/lang/StackTraceElement;" narrow_1_2 = true := by decide +kernel
theorem tt_narrow_3 : tt_names "[Ljava/lang/StackTraceElement;" narrow_1_3 = true := by decide +kernel
theorem tt_start_needs (tb : Tables) (e : Env) (a : Array Value) (s : State) (h : Pre_1 tb e a s) : (s.vm.findClass "[Ljava/lang/StackTraceElement;").isSome = true := by
  have hn : (Jvm.Cond.and given_1 (Jvm.Cond.and (Jvm.Cond.and narrow_1_1 narrow_1_2) (Jvm.Cond.and narrow_1_3 (Jvm.Cond.and narrow_1_4 narrow_1_5)))).before a s = true := h
  simp only [Cond.before_and, Bool.and_eq_true] at hn
  exact tt_needs _ a s narrow_1_2 tt_narrow_2 hn.2.1.2
