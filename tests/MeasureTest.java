import java.lang.reflect.Field;
import java.util.ArrayList;
import java.util.List;

/** Promises 39 to 43: rounds, shares, means, the checksum, and soundness. */
public final class MeasureTest implements Refusals {
    public static void main(String[] args) throws ReflectiveOperationException {
        rounds();
        laidShare();
        meanPips();
        checksum();
        isSound();
        notSound();
        Check.end("MeasureTest");
    }

    private static void rounds() {
        Check.part("promise 39");
        Bonehall hall = Scene.begun("r", 3, 2, 2);
        Check.due("none", 0, hall.rounds());
        for (int round = 1; round <= 3; round++) {
            hall.deal(round);
            Check.due("as it is dealt", round, hall.rounds());
            hall.pass();
            hall.pass();
            Check.due("as it is over", round, hall.rounds());
        }
        hall.close();
        Check.due("no match", 0, hall.rounds());
    }

    private static void laidShare() {
        Check.part("promise 40");
        Bonehall none = new Bonehall();
        Check.refuses("no match", ARITHMETIC, none, none::laidShare);
        Bonehall hall = Scene.begun("", 3, 2, 2);
        Check.due("no round", 0.0f, hall.laidShare());
        hall.deal(Scene.seedFor(3, new int[] {1, 4}, new int[] {2, 3}));
        hall.play(4, 0);
        Check.due("1 of 10", 1.0f / 10.0f, hall.laidShare());
        hall.pass();
        hall.play(1, 0);
        Check.due("2 of 10, after the round", 2.0f / 10.0f, hall.laidShare());
        hall.close();
        Check.refuses("no match any more", ARITHMETIC, hall, hall::laidShare);
    }

    private static void meanPips() {
        Check.part("promise 41");
        Bonehall none = new Bonehall();
        Check.refuses("no match", ARITHMETIC, none, none::meanPips);
        Bonehall hall = Scene.begun("", 3, 3, 2);
        Check.refuses("no round", ARITHMETIC, hall, hall::meanPips);
        hall.deal(Scene.seedFor(3, new int[] {1, 4}, new int[] {2, 3}, new int[] {0, 8}));
        Check.due("3 5 5", 13.0 / 3.0, hall.meanPips());
        hall.play(4, 0);
        Check.due("1 5 5", 11.0 / 3.0, hall.meanPips());
        hall.pass();
        hall.pass();
        hall.play(1, 0);
        Check.due("0 5 5, after the round", 10.0 / 3.0, hall.meanPips());
        hall.close();
        Check.refuses("no match any more", ARITHMETIC, hall, hall::meanPips);
    }

    private static long sumOf(int... parts) {
        long sum = 7;
        for (int part : parts) {
            sum = 31 * sum + part;
        }
        return sum;
    }

    private static void checksum() {
        Check.part("promise 42");
        Bonehall hall = Scene.begun("", 3, 3, 2);
        Check.due("nothing is anywhere", sumOf(0, 0, 0, 0, 0, 0, 0, 0, 0, 0, 0, 0, 0), hall.checksum());
        hall.deal(Scene.seedFor(3, new int[] {1, 4}, new int[] {2, 3}, new int[] {0, 8}));
        Check.due("dealt", sumOf(3, 1, 2, 2, 1, 0, 0, 0, 3, 0, 0, 0, 0), hall.checksum());
        hall.play(4, 0);
        Check.due("11", sumOf(3, 1, 2, 2, 9, 0, 0, 0, 3, 0, 1, 1, 0, 0, 0), hall.checksum());
        hall.pass();
        hall.pass();
        hall.play(1, 0);
        Check.due("01 won 10", sumOf(3, 9, 2, 2, 9, 0, 0, 0, 3, 0, 1, 0, 10, 0, 0), hall.checksum());
        hall.close();
        Check.due("no match", 7L, hall.checksum());
        Bonehall partners = Scene.dealt("p", 3, new int[] {0, 1}, new int[] {2, 4}, new int[] {3, 7}, new int[] {5, 9});
        Check.due("two sides", sumOf(1, 1, 2, 3, 2, 4, 0, 3, 0, 4, 0, 0), partners.checksum());
    }

    private static void isSound() {
        Check.part("promise 43");
        Bonehall hall = Scene.begun("", 3, 2, 2);
        Check.due("before a round", true, hall.isSound());
        hall.deal(Scene.seedFor(3, new int[] {0, 9}, new int[] {4, 5}));
        Check.due("nothing is laid", true, hall.isSound());
        hall.give(0, 1);
        Check.due("given", true, hall.isSound());
        hall.play(9, 0);
        hall.pass();
        Check.due("after a pass", true, hall.isSound());
        hall.pass();
        Check.due("after the round", true, hall.isSound());
        hall.close();
        Check.due("no match", true, hall.isSound());
        Bonehall misled = Scene.dealt("r", 3, new int[] {0, 9}, new int[] {3, 5});
        misled.play(9, 0);
        misled.pass();
        Check.due("a false pass", true, misled.isSound());
    }

    /**
     * What no call can bring about is put in by hand, so that it is seen that isSound looks. How the state is held is
     * free, so that this is asked only of a class that holds it in these parts.
     */
    private static void notSound() throws ReflectiveOperationException {
        List<String> parts = new ArrayList<>();
        for (Field field : Bonehall.class.getDeclaredFields()) {
            parts.add(field.getName());
        }
        if (!parts.containsAll(List.of("places", "layout", "knowledge"))) {
            System.out.println("MeasureTest: the state is held in other parts, so nothing unsound was put in");
            return;
        }
        Check.due("untouched", true, touched("", "", 0, 0));
        Check.due("a laid bone is in a hand", false, touched("places", "where", 4, 1));
        Check.due("a held bone is in the boneyard", false, touched("places", "where", 2, 0));
        Check.due("a held bone is nowhere", false, touched("places", "where", 2, 7));
        Check.due("a bone twice in the boneyard", false, touched("places", "row", 0, -1));
        Check.due("a bone laid twice", false, touched("layout", "bones", 1, 4));
        Check.due("a parent that comes later", false, touched("layout", "parents", 1, 1));
        Check.due("a first bone with a parent", false, touched("layout", "parents", 0, 0));
        Check.due("halves that do not meet", false, touched("layout", "joints", 1, 3));
        Check.due("an end of another value", false, touched("layout", "endValues", 0, 3));
        Check.due("an end of another bone", false, touched("layout", "endOwners", 0, 2));
        Check.due("a false knowledge", false, touched("knowledge", "lacks", 1, 1 << 3));
        Check.due("one more end", false, moreEnds());
    }

    /** 11, 12 and 01 are laid, the ends are 2 0, 03 and 13 are with the player 1, 00 with the player 0. */
    private static Bonehall laidOut() {
        Bonehall hall = Scene.dealt("", 3, new int[] {0, 1, 4}, new int[] {2, 5, 6});
        hall.play(4, 0);
        hall.play(5, 0);
        hall.play(1, 0);
        return hall;
    }

    private static boolean touched(String part, String row, int index, int value) throws ReflectiveOperationException {
        Bonehall hall = laidOut();
        if (!part.isEmpty()) {
            int[] values = (int[]) field(field(hall, part), row);
            values[index] = value < 0 ? values[index + 1] : value;
        }
        return hall.isSound();
    }

    private static boolean moreEnds() throws ReflectiveOperationException {
        Bonehall hall = laidOut();
        Object layout = field(hall, "layout");
        Field count = layout.getClass().getDeclaredField("endCount");
        count.setAccessible(true);
        count.setInt(layout, 3);
        return hall.isSound();
    }

    private static Object field(Object owner, String name) throws ReflectiveOperationException {
        Field field = owner.getClass().getDeclaredField(name);
        field.setAccessible(true);
        return field.get(owner);
    }
}
