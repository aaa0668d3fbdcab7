/** Promises 39 to 43: rounds, shares, means, the checksum, and soundness. */
public final class MeasureTest implements Refusals {
    public static void main(String[] args) {
        rounds();
        laidShare();
        meanPips();
        checksum();
        isSound();
        Check.end("MeasureTest");
    }

    private static void rounds() {
        Check.part("promise 39");
        Bonehall hall = Scene.begun("r", 3, 2, 2);
        Check.due("none", 0, hall.rounds());
        for (int round = 1; round <= 3; round++) {
            hall.deal(round);
            Check.due("as it is dealt", round, hall.rounds());
            hall.pass();
            hall.pass();
            Check.due("as it is over", round, hall.rounds());
        }
        hall.close();
        Check.due("no match", 0, hall.rounds());
    }

    private static void laidShare() {
        Check.part("promise 40");
        Bonehall none = new Bonehall();
        Check.refuses("no match", ARITHMETIC, none, none::laidShare);
        Bonehall hall = Scene.begun("", 3, 2, 2);
        Check.due("no round", 0.0f, hall.laidShare());
        hall.deal(Scene.seedFor(3, new int[] {1, 4}, new int[] {2, 3}));
        hall.play(4, 0);
        Check.due("1 of 10", 1.0f / 10.0f, hall.laidShare());
        hall.pass();
        hall.play(1, 0);
        Check.due("2 of 10, after the round", 2.0f / 10.0f, hall.laidShare());
        hall.close();
        Check.refuses("no match any more", ARITHMETIC, hall, hall::laidShare);
    }

    private static void meanPips() {
        Check.part("promise 41");
        Bonehall none = new Bonehall();
        Check.refuses("no match", ARITHMETIC, none, none::meanPips);
        Bonehall hall = Scene.begun("", 3, 3, 2);
        Check.refuses("no round", ARITHMETIC, hall, hall::meanPips);
        hall.deal(Scene.seedFor(3, new int[] {1, 4}, new int[] {2, 3}, new int[] {0, 8}));
        Check.due("3 5 5", 13.0 / 3.0, hall.meanPips());
        hall.play(4, 0);
        Check.due("1 5 5", 11.0 / 3.0, hall.meanPips());
        hall.pass();
        hall.pass();
        hall.play(1, 0);
        Check.due("0 5 5, after the round", 10.0 / 3.0, hall.meanPips());
        hall.close();
        Check.refuses("no match any more", ARITHMETIC, hall, hall::meanPips);
    }

    private static long sumOf(int... parts) {
        long sum = 7;
        for (int part : parts) {
            sum = 31 * sum + part;
        }
        return sum;
    }

    private static void checksum() {
        Check.part("promise 42");
        Bonehall hall = Scene.begun("", 3, 3, 2);
        Check.due("nothing is anywhere", sumOf(0, 0, 0, 0, 0, 0, 0, 0, 0, 0, 0, 0, 0), hall.checksum());
        hall.deal(Scene.seedFor(3, new int[] {1, 4}, new int[] {2, 3}, new int[] {0, 8}));
        Check.due("dealt", sumOf(3, 1, 2, 2, 1, 0, 0, 0, 3, 0, 0, 0, 0), hall.checksum());
        hall.play(4, 0);
        Check.due("11", sumOf(3, 1, 2, 2, 9, 0, 0, 0, 3, 0, 1, 1, 0, 0, 0), hall.checksum());
        hall.pass();
        hall.pass();
        hall.play(1, 0);
        Check.due("01 won 10", sumOf(3, 9, 2, 2, 9, 0, 0, 0, 3, 0, 1, 0, 10, 0, 0), hall.checksum());
        hall.close();
        Check.due("no match", 7L, hall.checksum());
        Bonehall partners = Scene.dealt("p", 3, new int[] {0, 1}, new int[] {2, 4}, new int[] {3, 7}, new int[] {5, 9});
        Check.due("two sides", sumOf(1, 1, 2, 3, 2, 4, 0, 3, 0, 4, 0, 0), partners.checksum());
    }

    private static void isSound() {
        Check.part("promise 43");
        Bonehall hall = Scene.begun("", 3, 2, 2);
        Check.due("before a round", true, hall.isSound());
        hall.deal(Scene.seedFor(3, new int[] {0, 9}, new int[] {4, 5}));
        Check.due("nothing is laid", true, hall.isSound());
        hall.give(0, 1);
        Check.due("given", true, hall.isSound());
        hall.play(9, 0);
        hall.pass();
        Check.due("after a pass", true, hall.isSound());
        hall.pass();
        Check.due("after the round", true, hall.isSound());
        hall.close();
        Check.due("no match", true, hall.isSound());
        Bonehall misled = Scene.dealt("r", 3, new int[] {0, 9}, new int[] {3, 5});
        misled.play(9, 0);
        misled.pass();
        Check.due("a false pass", true, misled.isSound());
    }
}
