/** Promises 29 to 33: deals by a player's eye, and endings. */
public final class EyeTest implements Refusals {
    public static void main(String[] args) {
        deals();
        dealsThatWrap();
        dealsAfterPasses();
        dealsOfThree();
        chance();
        noDeals();
        chanceAfterDraws();
        solve();
        solveChoice();
        solveTie();
        solveEnds();
        solvePartners();
        solveAtMostEight();
        refusedEndings();
        Check.end("EyeTest");
    }

    private static void deals() {
        Check.part("promise 29");
        Bonehall hall = Scene.begun("", 3, 2, 2);
        Check.refuses("before a round", STATE, hall, () -> hall.deals(0));
        Check.refuses("player 2", BOUNDS, hall, () -> hall.deals(2));
        hall.deal(1);
        Check.due("8 over 2", 28L, hall.deals(0));
        Check.due("8 over 2", 28L, hall.deals(1));
        Check.refuses("player -1", BOUNDS, hall, () -> hall.deals(-1));
        Bonehall three = Scene.begun("", 3, 3, 2);
        three.deal(1);
        Check.due("8 over 2, 6 over 2", 420L, three.deals(2));
        Bonehall four = Scene.begun("", 3, 4, 2);
        four.deal(1);
        Check.due("8 over 2, 6 over 2, 4 over 2", 2520L, four.deals(3));
        Bonehall whole = Scene.begun("", 3, 2, 5);
        whole.deal(1);
        Check.due("no boneyard", 1L, whole.deals(0));
    }

    /** 46 over 9, times 37 over 9, times 28 over 9, is 946642444436980030740000. */
    private static void dealsThatWrap() {
        Bonehall hall = Scene.begun("", 9, 4, 9);
        hall.deal(77);
        Check.due("wrapped", -7567937646739089888L, hall.deals(1));
    }

    private static void dealsAfterPasses() {
        Bonehall hall = Scene.dealt("", 3, new int[] {0, 9}, new int[] {4, 5});
        hall.play(9, 0);
        Check.due("8 over 2", 28L, hall.deals(0));
        hall.pass();
        Check.due("01 02 11 12 22 may be there", 10L, hall.deals(0));
        Check.due("one of seven", 7L, hall.deals(1));
        Check.part("promise 30");
        Check.due("01 with one of four", 0.4, hall.chance(0, 1, 1));
        Check.due("03 is a 3", 0.0, hall.chance(0, 1, 3));
        Check.due("00 is one of seven", 1.0 / 7.0, hall.chance(1, 0, 0));
        hall.pass();
        Check.refuses("after the round", STATE, hall, () -> hall.deals(0));
    }

    private static void dealsOfThree() {
        Check.part("promise 29");
        Bonehall one = Scene.dealt("", 3, new int[] {1, 8, 9}, new int[] {0, 2, 4}, new int[] {3, 5, 6});
        one.play(9, 0);
        one.pass();
        one.play(6, 0);
        one.play(8, 0);
        Check.due("three of 00 02 11 12 22, two of the others and 03", 30L, one.deals(0));
        Bonehall both = Scene.dealt("", 3, new int[] {6, 8, 9}, new int[] {0, 2, 4}, new int[] {1, 5, 7});
        both.play(9, 0);
        both.pass();
        both.pass();
        both.play(6, 0);
        Check.due("03 is in the boneyard, 6 over 3 for the rest", 20L, both.deals(0));
        Check.due("01 12 22 are with player 2, 03 or 23 with player 0", 2L, both.deals(1));
    }

    private static void chance() {
        Check.part("promise 30");
        Bonehall hall = Scene.begun("", 3, 3, 2);
        Check.refuses("before a round", STATE, hall, () -> hall.chance(0, 1, 0));
        Check.refuses("the same before a round", ILLEGAL, hall, () -> hall.chance(1, 1, 0));
        Check.refuses("player 3", BOUNDS, hall, () -> hall.chance(3, 1, 0));
        Check.refuses("other 3", BOUNDS, hall, () -> hall.chance(0, 3, 0));
        Check.refuses("other -1", BOUNDS, hall, () -> hall.chance(0, -1, 0));
        Check.refuses("bone 10 and the same", BOUNDS, hall, () -> hall.chance(0, 0, 10));
        hall.deal(Scene.seedFor(3, new int[] {0, 9}, new int[] {4, 5}, new int[] {1, 2}));
        Check.due("2 of 8", 0.25, hall.chance(0, 1, 4));
        Check.due("2 of 8", 0.25, hall.chance(0, 2, 3));
        Check.refuses("the own bone", UNSUPPORTED, hall, () -> hall.chance(0, 1, 9));
        Check.refuses("bone -1", BOUNDS, hall, () -> hall.chance(0, 1, -1));
        hall.play(9, 0);
        Check.refuses("a laid bone", UNSUPPORTED, hall, () -> hall.chance(1, 0, 9));
        Check.refuses("a laid bone of the same", ILLEGAL, hall, () -> hall.chance(1, 1, 9));
        Check.due("1 of 7", 1.0 / 7.0, hall.chance(1, 0, 0));
        voidOfNought();
    }

    /** Player 1 is known to have no 0, so that no bone with one is there, the bone 0 neither. */
    private static void voidOfNought() {
        Bonehall nought = Scene.dealt("", 3, new int[] {2, 9}, new int[] {4, 5});
        nought.play(2, 0);
        Check.due("12 at 0 2", 0, nought.play(5, 1));
        Check.due("33 at 0 1", 1, nought.pass());
        Check.due("00 with player 0", 0.0, nought.chance(1, 0, 0));
        Check.due("03 with player 0", 0.0, nought.chance(1, 0, 3));
        Check.due("22, 23 or 33", 3L, nought.deals(1));
        Check.due("33 with player 0", 1.0 / 3.0, nought.chance(1, 0, 9));
    }

    /** Player 1 passes falsely at 0 1 and at 0 2, so that 33 alone is left, and that is with player 0. */
    private static void noDeals() {
        Bonehall hall = Scene.dealt("r", 3, new int[] {1, 5, 9}, new int[] {0, 2, 7});
        hall.play(1, 0);
        hall.pass();
        Check.due("22 and 23 alone for three", 0L, hall.deals(0));
        hall.play(5, 1);
        hall.pass();
        Check.due("none", 0L, hall.deals(0));
        Check.refuses("none", ARITHMETIC, hall, () -> hall.chance(0, 1, 0));
        Check.refuses("none, the own bone", UNSUPPORTED, hall, () -> hall.chance(0, 1, 9));
        Check.due("one of five", 5L, hall.deals(1));
    }

    private static void chanceAfterDraws() {
        Bonehall hall = Scene.begun("d", 3, 2, 2);
        hall.deal(Scene.seedForYard(new int[] {7, 2, 6}, 3, new int[] {0, 9}, new int[] {4, 5}));
        hall.play(9, 0);
        hall.draw();
        hall.draw();
        hall.draw();
        Check.part("promise 29");
        Check.due("8 over 5", 56L, hall.deals(0));
        Check.due("4 over 1", 4L, hall.deals(1));
        Check.part("promise 30");
        Check.due("5 of 8", 0.625, hall.chance(0, 1, 8));
    }

    private static void best(Bonehall hall, int value, int bone, int end) {
        String before = Scene.look(hall);
        Check.part("promise 31");
        Check.due("solve", value, hall.solve());
        Check.part("promise 32");
        Check.due("bestBone", bone, hall.bestBone());
        Check.part("promise 33");
        Check.due("bestEnd", end, hall.bestEnd());
        Check.due("nothing is changed", before, Scene.look(hall));
    }

    private static void solve() {
        Bonehall hall = Scene.dealt("", 3, new int[] {1, 4}, new int[] {2, 3});
        hall.play(4, 0);
        best(hall, -5, -1, -1);
        hall.pass();
        best(hall, 5, 1, 0);
        Bonehall blocked = Scene.dealt("", 3, new int[] {0, 1}, new int[] {7, 9});
        blocked.play(9, 0);
        best(blocked, 3, -1, -1);
        blocked.pass();
        best(blocked, -3, -1, -1);
        Bonehall even = Scene.dealt("", 3, new int[] {1, 5}, new int[] {7, 9});
        even.play(9, 0);
        best(even, 0, -1, -1);
    }

    /** After 13: 03 leaves 23 without a play and 12 wins 5; 12 lets 23 win 3. */
    private static void solveChoice() {
        Bonehall hall = Scene.dealt("", 3, new int[] {6, 8}, new int[] {3, 5});
        hall.play(6, 0);
        best(hall, 5, 3, 1);
    }

    private static void solveTie() {
        Bonehall hall = Scene.dealt("", 3, new int[] {4, 7}, new int[] {1, 6});
        Check.due("22 begins", 0, hall.turn());
        hall.play(4, 0);
        best(hall, 4, 1, 0);
    }

    private static void solveEnds() {
        Bonehall hall = Scene.dealt("", 3, new int[] {4, 6}, new int[] {5, 8});
        hall.play(6, 0);
        // 12 at 1 leaves 3 2, where 11 cannot and 23 wins 2; 23 at 3 leaves 1 2, where 11 wins 3.
        best(hall, 2, 5, 0);
        Bonehall both = Scene.dealt("", 3, new int[] {0, 1, 3}, new int[] {5, 6, 8});
        both.play(1, 0);
        both.play(6, 1);
        // 03 at the end 0 leaves 3 3, where 00 is stuck; at the end 1 it leaves 0 0 for 00 to win 12 and 23.
        best(both, 8, 3, 1);
    }

    private static void solvePartners() {
        Bonehall hall = Scene.dealtBy(3775537, "p", 4,
                new int[] {12, 14}, new int[] {7, 10}, new int[] {0, 1}, new int[] {3, 9});
        hall.play(14, 0);
        best(hall, -9, -1, -1);
        hall.pass();
        best(hall, 9, -1, -1);
        Bonehall won = Scene.dealt("p", 3, new int[] {1, 9}, new int[] {2, 5}, new int[] {4, 7}, new int[] {0, 8});
        won.play(9, 0);
        won.pass();
        won.pass();
        won.play(8, 0);
        won.pass();
        won.play(5, 1);
        won.play(4, 1);
        best(won, -2, -1, -1);
        won.pass();
        best(won, 2, 1, 1);
    }

    private static void solveAtMostEight() {
        int[][] hands = {{0, 1, 2, 3, 9}, {4, 5, 6, 7, 8}};
        Bonehall hall = Scene.dealt("", 3, hands);
        hall.play(1, 0);
        Check.part("promise 31");
        Check.refuses("nine in hands", UNSUPPORTED, hall, hall::solve);
        Check.refuses("nine in hands", UNSUPPORTED, hall, hall::bestBone);
        Check.refuses("nine in hands", UNSUPPORTED, hall, hall::bestEnd);
        hall.play(4, 1);
        Model model = new Model();
        model.begin(3, 2, 5);
        model.deal(Scene.seedFor(3, hands));
        model.play(1, 0);
        model.play(4, 1);
        best(hall, model.solve(), model.bestBone(), model.bestEnd());
    }

    private static void refusedEndings() {
        for (char letter : "sxdftcr".toCharArray()) {
            Bonehall hall = Scene.dealt(String.valueOf(letter), 3, new int[] {6, 8}, new int[] {3, 5});
            hall.play(6, 0);
            refuse("rule " + letter, UNSUPPORTED, hall);
        }
        Bonehall none = Scene.begun("r", 3, 2, 2);
        refuse("before a round", STATE, none);
        none.deal(1);
        refuse("nothing is laid", UNSUPPORTED, none);
        Bonehall first = Scene.dealt("", 3, new int[] {6, 8}, new int[] {3, 5});
        refuse("nothing is laid", UNSUPPORTED, first);
        Bonehall three = Scene.dealt("", 3, new int[] {1, 4}, new int[] {2, 3}, new int[] {0, 8});
        three.play(4, 0);
        refuse("three sides", UNSUPPORTED, three);
        Bonehall four = Scene.dealt("", 3, new int[] {1, 9}, new int[] {2, 5}, new int[] {4, 7}, new int[] {0, 8});
        four.play(9, 0);
        refuse("four sides", UNSUPPORTED, four);
        Bonehall over = Scene.dealt("", 3, new int[] {0, 1}, new int[] {7, 9});
        over.play(9, 0);
        over.pass();
        over.pass();
        refuse("after the round", STATE, over);
    }

    private static void refuse(String why, Class<? extends RuntimeException> want, Bonehall hall) {
        Check.part("promise 31");
        Check.refuses(why, want, hall, hall::solve);
        Check.part("promise 32");
        Check.refuses(why, want, hall, hall::bestBone);
        Check.part("promise 33");
        Check.refuses(why, want, hall, hall::bestEnd);
    }
}
