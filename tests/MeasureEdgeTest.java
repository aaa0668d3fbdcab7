import java.math.BigInteger;

/** The edges that the promises 39 to 43 name, a sentence a test. */
public final class MeasureEdgeTest implements Refusals {
    public static void main(String[] args) {
        rounds();
        shareOfEachSet();
        meanOfEachMany();
        checksumOfNothing();
        checksumPlaces();
        checksumWraps();
        soundAllTheTime();
        soundAfterFalsePasses();
        Check.end("MeasureEdgeTest");
    }

    private static void rounds() {
        Check.part("promise 39: 'in the match'");
        Bonehall hall = Scene.begun("r", 3, 2, 2);
        Check.due("none", 0, hall.rounds());
        hall.deal(1);
        Check.due("one that goes on", 1, hall.rounds());
        hall.pass();
        hall.pass();
        hall.deal(2);
        Check.due("two", 2, hall.rounds());
        hall.close();
        Check.due("no match", 0, hall.rounds());
        hall.begin(3, 2, 2);
        Check.due("the next match", 0, hall.rounds());
    }

    private static void shareOfEachSet() {
        Check.part("promise 40: 'Returns their number divided by that of all, both converted to float'");
        for (int highest = 3; highest <= 9; highest++) {
            int bones = (highest + 1) * (highest + 2) / 2;
            Bonehall hall = Scene.begun("", highest, 2, 2);
            Check.due("none laid", 0.0f, hall.laidShare());
            hall.deal(highest);
            hall.play(hall.handAt(hall.turn(), 0), 0);
            Check.due("one of " + bones, 1.0f / (float) bones, hall.laidShare());
            hall.close();
            Check.refuses("'if no match was begun'", ARITHMETIC, hall, hall::laidShare);
        }
    }

    private static void meanOfEachMany() {
        Check.part("promise 41: 'Returns the sum divided by their number, both converted to double'");
        for (int players = 2; players <= 4; players++) {
            Bonehall hall = Scene.begun("", 6, players, 5);
            Check.refuses("'if no round was dealt'", ARITHMETIC, hall, hall::meanPips);
            hall.deal(players);
            double sum = 0;
            for (int player = 0; player < players; player++) {
                sum += hall.pips(player);
            }
            Check.due("mean of " + players, sum / players, hall.meanPips());
            int bone = hall.handAt(hall.turn(), 4);
            hall.play(bone, 0);
            Check.due("less", (sum - hall.half(bone, true) - hall.half(bone, false)) / players, hall.meanPips());
            hall.close();
            Check.refuses("no match", ARITHMETIC, hall, hall::meanPips);
        }
    }

    private static void checksumOfNothing() {
        Check.part("promise 42: '7 at first'");
        Check.due("a new one", 7L, new Bonehall().checksum());
        Bonehall hall = Scene.begun("", 3, 2, 2);
        hall.close();
        Check.due("a closed one", 7L, hall.checksum());
    }

    private static long sumOf(int... parts) {
        long sum = 7;
        for (int part : parts) {
            sum = 31 * sum + part;
        }
        return sum;
    }

    private static void checksumPlaces() {
        Check.part("promise 42: '0 the boneyard, 1 more than the player, 9 if it is laid'");
        Bonehall hall = Scene.dealt("r", 3, new int[] {0, 1}, new int[] {2, 4}, new int[] {3, 7}, new int[] {5, 9});
        Check.due("four players", sumOf(1, 1, 2, 3, 2, 4, 0, 3, 0, 4, 0, 0, 0, 0), hall.checksum());
        Scene.lay(hall, 9, 0);
        Check.part("promise 42: 'then for each open end', 'then for each side'");
        Check.due("33", sumOf(1, 1, 2, 3, 2, 4, 0, 3, 0, 9, 3, 3, 0, 0, 0, 0), hall.checksum());
        hall.pass();
        hall.pass();
        Scene.lay(hall, 3, 1);
        Check.due("03", sumOf(1, 1, 2, 9, 2, 4, 0, 3, 0, 9, 3, 0, 0, 0, 0, 0), hall.checksum());
        Scene.lay(hall, 0, 1);
        Check.due("00", sumOf(9, 1, 2, 9, 2, 4, 0, 3, 0, 9, 3, 0, 0, 0, 0, 0), hall.checksum());
    }

    /** Each bone of a set to nine is a step by 31, so that the sum has long left the longs. */
    private static void checksumWraps() {
        Check.part("promise 42: the sum is a long");
        Bonehall hall = Scene.begun("r", 9, 4, 9);
        hall.deal(123);
        hall.play(hall.handAt(hall.turn(), 3), 0);
        hall.pass();
        BigInteger sum = BigInteger.valueOf(7);
        int[] owners = Scene.owners(hall, 55, 4);
        for (int bone = 0; bone < 55; bone++) {
            sum = step(sum, bone == hall.laidAt(0) ? 9 : owners[bone] + 1);
        }
        for (int end = 0; end < hall.ends(); end++) {
            sum = step(sum, hall.endAt(end));
        }
        for (int side = 0; side < 4; side++) {
            sum = step(sum, hall.points(side));
        }
        Check.due("it is too great for a long", true, sum.bitLength() > 64);
        Check.due("wrapped", sum.longValue(), hall.checksum());
    }

    private static BigInteger step(BigInteger sum, int part) {
        return sum.multiply(BigInteger.valueOf(31)).add(BigInteger.valueOf(part));
    }

    private static void soundAllTheTime() {
        Check.part("promise 43: 'Returns whether all is sound', after each call of many rounds");
        for (int seed = 0; seed < 120; seed++) {
            String rules = new String[] {"", "d", "dr", "xd", "sr", "xdr"}[seed % 6];
            Bonehall hall = Scene.begun(rules, 3 + seed % 4, 2 + seed % 3, 2);
            Check.due("begun", true, hall.isSound());
            hall.deal(seed);
            for (int step = 0; step < 12 && Scene.isGoing(hall); step++) {
                Check.due("sound by " + rules, true, hall.isSound());
                step(hall, seed + step);
            }
            Check.due("at the end", true, hall.isSound());
            hall.close();
            Check.due("closed", true, hall.isSound());
        }
    }

    /** A false pass now and then, otherwise the lowest bone that fits, a draw or a pass. */
    private static void step(Bonehall hall, int dice) {
        boolean isDone = dice % 4 == 0 && Scene.passOrDraw(hall);
        if (!isDone && !Scene.playLowest(hall)) {
            Scene.passOrDraw(hall);
        }
    }

    /** 01 13, 03 23 and 00 33: the player 0 passes falsely and is found, and passes falsely again. */
    private static void soundAfterFalsePasses() {
        Check.part("promise 43: 'if no pass was false'");
        Bonehall hall = Scene.dealt("r", 3, new int[] {1, 6}, new int[] {3, 8}, new int[] {0, 9});
        hall.play(9, 0);
        Check.due("no pass", true, hall.isSound());
        hall.pass();
        Check.due("0 was false", true, hall.isSound());
        hall.play(8, 0);
        hall.pass();
        Check.due("2 was true", true, hall.isSound());
        hall.play(6, 0);
        Check.due("0 is found", 1, hall.found());
        Check.due("sound", true, hall.isSound());
        hall.pass();
        hall.pass();
        Check.due("1 and 2 were true", true, hall.isSound());
        hall.pass();
        Check.due("0 was false, and the round is over", true, hall.isSound());
        hall.deal(1);
        Check.due("the next round", true, hall.isSound());
        soundAsOneOfTwoIsFound();
    }

    /** 02 03 33 against 00 12 23: both pass falsely, the player 1 at 3 3, the player 0 at 3 0, then 23 is laid. */
    private static void soundAsOneOfTwoIsFound() {
        Bonehall hall = Scene.dealt("r", 3, new int[] {2, 3, 9}, new int[] {0, 5, 8});
        hall.play(9, 0);
        hall.pass();
        hall.play(3, 0);
        hall.play(0, 1);
        Check.due("1 is not found", 0, hall.found());
        hall.pass();
        Check.due("both were false", true, hall.isSound());
        hall.play(8, 0);
        Check.due("1 is found", 1, hall.found());
        Check.due("0 is not", true, hall.isVoid(0, 3) && hall.isSound());
        hall.play(2, 1);
        Check.due("0 is found", 2, hall.found());
        Check.due("nothing is known", true, hall.isSound());
    }
}
