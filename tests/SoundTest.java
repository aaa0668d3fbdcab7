import java.lang.reflect.Field;
import java.util.Arrays;

/**
 * Promise 43: isSound is true in each state that calls can lead to, so here the state is spoilt from outside, one part
 * at a time, by a mirror: each time it has to be false.
 */
public final class SoundTest {
    private static final int IS_LAID = 9;

    public static void main(String[] args) throws ReflectiveOperationException {
        beforeARound();
        eachBoneAtOnePlace();
        hangsTogether();
        endsAreTheFreeHalves();
        spinners();
        oneOfTheDeals();
        dealsAfterPasses();
        Check.end("SoundTest");
    }

    /** 33 is laid, 23 at it, 13 at the other 3 and 12 at the 2, so that 1 and 1 are open; 02 and 22 are in hands. */
    private static Bonehall hall(String rules) {
        Bonehall hall = Scene.dealt("r" + rules, 3, new int[] {2, 8, 9}, new int[] {5, 6, 7});
        Scene.lay(hall, 9, 0);
        Scene.lay(hall, 8, 0);
        Scene.lay(hall, 6, 0);
        Scene.lay(hall, 5, hall.ends() - 2);
        Check.due("sound", true, hall.isSound());
        return hall;
    }

    private static Object part(Bonehall hall, String name) throws ReflectiveOperationException {
        return field(hall, name).get(hall);
    }

    private static Field field(Object owner, String name) throws ReflectiveOperationException {
        Field field = owner.getClass().getDeclaredField(name);
        field.setAccessible(true);
        return field;
    }

    private static int[] row(Bonehall hall, String part, String name) throws ReflectiveOperationException {
        Object owner = part(hall, part);
        return (int[]) field(owner, name).get(owner);
    }

    /** Sets a number of a part, and back after it was asked whether all is sound. */
    private static void number(boolean due, Bonehall hall, String part, String name, int value)
            throws ReflectiveOperationException {
        Object owner = part(hall, part);
        Field field = field(owner, name);
        int before = field.getInt(owner);
        field.setInt(owner, value);
        Check.due(part + "." + name + " = " + value, due, hall.isSound());
        field.setInt(owner, before);
        Check.due("sound again", true, hall.isSound());
    }

    /** The same with an element. */
    private static void element(boolean due, Bonehall hall, String part, String name, int index, int value)
            throws ReflectiveOperationException {
        int[] row = row(hall, part, name);
        int before = row[index];
        row[index] = value;
        Check.due(part + "." + name + "[" + index + "] = " + value, due, hall.isSound());
        row[index] = before;
        Check.due("sound again", true, hall.isSound());
    }

    private static void beforeARound() throws ReflectiveOperationException {
        Check.part("promise 43: nothing is anywhere before a round");
        Bonehall hall = Scene.begun("", 3, 2, 2);
        number(false, hall, "layout", "count", 1);
        number(false, hall, "layout", "endCount", 1);
        number(false, hall, "places", "yardCount", 1);
    }

    private static void eachBoneAtOnePlace() throws ReflectiveOperationException {
        Check.part("promise 43: 'each bone is at one place'");
        Bonehall hall = hall("");
        for (int bone = 0; bone < 10; bone++) {
            int at = row(hall, "places", "where")[bone];
            for (int place : new int[] {0, 1, IS_LAID, 3, 8, -1, 10}) {
                boolean isHeld = at == 1 || at == 2;
                boolean toHand = place == 1;
                if (place != at && !(isHeld && toHand)) {
                    element(false, hall, "places", "where", bone, place);
                }
            }
        }
        Check.due("four are in the boneyard", 4, hall.yard());
        number(false, hall, "places", "yardCount", 3);
        number(false, hall, "places", "yardCount", 5);
        element(false, hall, "places", "row", 0, hall.laidAt(0));
        for (int place = 1; place < 4; place++) {
            element(false, hall, "places", "row", place, row(hall, "places", "row")[place - 1]);
        }
        yardBoneTwice(hall);
    }

    /** One more place in the boneyard, in which a bone is that is there already. */
    private static void yardBoneTwice(Bonehall hall) throws ReflectiveOperationException {
        int[] row = row(hall, "places", "row");
        int kept = row[4];
        row[4] = row[0];
        number(false, hall, "places", "yardCount", 5);
        row[4] = kept;
    }

    private static void hangsTogether() throws ReflectiveOperationException {
        Check.part("promise 43: 'what is laid hangs together, half by half'");
        Bonehall hall = hall("");
        element(false, hall, "layout", "bones", 0, hall.laidAt(1));
        element(false, hall, "layout", "bones", 3, 0);
        for (int index = 0; index < 4; index++) {
            int[] parents = row(hall, "layout", "parents");
            for (int parent = -2; parent < 6; parent++) {
                if (parent != parents[index]) {
                    element(false, hall, "layout", "parents", index, parent);
                }
            }
            int[] joints = row(hall, "layout", "joints");
            for (int value = 0; value <= 3; value++) {
                if (value != joints[index] && index > 0) {
                    element(false, hall, "layout", "joints", index, value);
                }
            }
        }
        number(false, hall, "layout", "count", 3);
    }

    private static void endsAreTheFreeHalves() throws ReflectiveOperationException {
        Check.part("promise 43: 'the ends are those halves that are free'");
        for (String rules : new String[] {"", "x"}) {
            Bonehall hall = hall(rules);
            int ends = hall.ends();
            Check.due("ends", rules.isEmpty() ? 2 : 4, ends);
            number(false, hall, "layout", "endCount", ends - 1);
            number(false, hall, "layout", "endCount", ends + 1);
            for (int end = 0; end < ends; end++) {
                for (int value = 0; value <= 3; value++) {
                    if (value != hall.endAt(end)) {
                        element(false, hall, "layout", "endValues", end, value);
                    }
                }
                int[] owners = row(hall, "layout", "endOwners");
                for (int owner = -1; owner < 5; owner++) {
                    if (owner != owners[end]) {
                        element(false, hall, "layout", "endOwners", end, owner);
                    }
                }
            }
        }
    }

    private static void spinners() throws ReflectiveOperationException {
        Check.part("promise 43: a spinner has two more halves than another double");
        for (String rules : new String[] {"", "s"}) {
            Bonehall hall = hall(rules);
            boolean[] spinners = (boolean[]) field(part(hall, "layout"), "spinners").get(part(hall, "layout"));
            spinners[0] = !spinners[0];
            Check.due("rules " + rules, false, hall.isSound());
        }
    }

    private static void oneOfTheDeals() throws ReflectiveOperationException {
        Check.part("promise 43: 'one of the deals of each eye, if no pass was false'");
        Bonehall hall = hall("");
        Check.due("02 with 0", 2, hall.handAt(0, 0));
        Check.due("22 with 1", 7, hall.handAt(1, 0));
        forgetAll(hall);
        for (int player = 0; player < 2; player++) {
            for (int value = 0; value <= 3; value++) {
                boolean isThere = value == 2 || (value == 0 && player == 0);
                element(!isThere, hall, "knowledge", "lacks", player, 1 << value);
            }
        }
        Bonehall misled = Scene.dealt("r", 3, new int[] {2, 8, 9}, new int[] {5, 6, 7});
        misled.play(9, 0);
        misled.pass();
        Check.due("a false pass", true, misled.isVoid(1, 3));
        Check.due("sound all the same", true, misled.isSound());
        number(false, misled, "knowledge", "misled", 0);
        Scene.lay(misled, 8, 0);
        misled.play(6, 0);
        Check.due("it is found, 12 and 22 are left", 1, misled.found());
        element(false, misled, "knowledge", "lacks", 1, 1 << 2);
        element(true, misled, "knowledge", "lacks", 1, 1 << 3);
    }

    private static void dealsAfterPasses() throws ReflectiveOperationException {
        Check.part("promise 43: a false pass counts for its player, and for its round");
        Bonehall honest = Scene.dealt("", 3, new int[] {0, 9}, new int[] {4, 5});
        honest.play(9, 0);
        honest.pass();
        element(false, honest, "knowledge", "lacks", 0, 1);
        element(false, honest, "knowledge", "lacks", 1, 2);
        Bonehall next = hall("");
        next.pass();
        next.pass();
        next.deal(2);
        for (int player = 0; player < 2; player++) {
            int value = next.half(next.handAt(player, 0), true);
            element(false, next, "knowledge", "lacks", player, 1 << value);
        }
    }

    private static void forgetAll(Bonehall hall) throws ReflectiveOperationException {
        Object knowledge = part(hall, "knowledge");
        Arrays.fill((int[]) field(knowledge, "lacks").get(knowledge), 0);
        field(knowledge, "misled").setInt(knowledge, 0);
    }
}
