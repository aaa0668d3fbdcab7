/**
 * The edges that the term The layout and the promises 14 to 20 name, a sentence a test. By the rule 'r' bones are laid
 * in any wanted order, as those who do not hold the next one pass.
 */
public final class LayoutEdgeTest implements Refusals {
    public static void main(String[] args) {
        nothingLaid();
        firstBoneMayBeAny();
        lesserHalfFirst();
        endsInTheOrderInWhichTheyCame();
        fitsByOneHalf();
        plainBoneHasOneNewEnd();
        plainDoubleHasOne();
        spinnerHasThree();
        spinnerHasFourAsTheFirst();
        onlyTheFirstDoubleSpins();
        firstDoubleOfEachRound();
        mostEnds();
        sumOfTwoHalves();
        sumOfAPlainDouble();
        sumOfTheFirstPlainDouble();
        sumOfTheFirstSpinner();
        sumOfALaterSpinner();
        sumOfTwoDoubles();
        sumIsNewInEachRound();
        oldEndsAndDoublesAreGone();
        canPlayByTheBoneNought();
        laidInTheirOrder();
        Check.end("LayoutEdgeTest");
    }

    /** All ten bones of a set to three are in the hands of two players. */
    private static Bonehall whole(String rules) {
        Bonehall hall = Scene.begun("r" + rules, 3, 2, 5);
        hall.deal(2);
        return hall;
    }

    /** Lays the bone that is written as two halves. */
    private static void lay(Bonehall hall, String halves, int end) {
        Scene.lay(hall, hall.bone(halves.charAt(0) - '0', halves.charAt(1) - '0'), end);
    }

    private static void due(Bonehall hall, String ends, int sum) {
        Check.due("ends", ends, Scene.ends(hall));
        Check.due("how many", ends.length(), hall.ends());
        Check.due("sum at " + ends, sum, hall.sum());
        Check.refuses("one more end", BOUNDS, hall, () -> hall.endAt(ends.length()));
        Check.due("sound", true, hall.isSound());
    }

    private static void nothingLaid() {
        Check.part("promises 14 to 18: nothing laid");
        Bonehall hall = whole("x");
        Check.due("laid", 0, hall.laid());
        due(hall, "", 0);
        Check.refuses("a bone", NONE, hall, () -> hall.laidAt(0));
        Check.refuses("fits", BOUNDS, hall, () -> hall.fits(0, 0));
    }

    private static void firstBoneMayBeAny() {
        Check.part("'The first bone may be any in hand'");
        for (int index = 0; index < 5; index++) {
            Bonehall hall = whole("");
            int bone = hall.handAt(hall.turn(), index);
            hall.play(bone, 3 - 7 * index);
            Check.due("the first", bone, hall.laidAt(0));
            Check.due("laid", 1, hall.laid());
        }
    }

    private static void lesserHalfFirst() {
        Check.part("'It has two open ends, one for each half, the lesser one first'");
        for (String halves : new String[] {"01", "02", "03", "12", "13", "23", "00", "11", "22", "33"}) {
            Bonehall hall = whole("");
            lay(hall, halves, 0);
            due(hall, halves, halves.charAt(0) + halves.charAt(1) - 2 * '0');
        }
    }

    private static void endsInTheOrderInWhichTheyCame() {
        Check.part("'an end that is played at is gone, and those that come by it are the last ones'");
        Bonehall hall = whole("");
        lay(hall, "12", 0);
        Check.due("ends", "12", Scene.ends(hall));
        lay(hall, "01", 0);
        Check.due("the end 0 is gone", "20", Scene.ends(hall));
        lay(hall, "03", 1);
        Check.due("the end 1 is gone", "23", Scene.ends(hall));
        lay(hall, "22", 0);
        Check.due("the end 0 is gone", "32", Scene.ends(hall));
        lay(hall, "33", 0);
        Check.due("the end 0 is gone", "23", Scene.ends(hall));
    }

    private static void fitsByOneHalf() {
        Check.part("promise 19: 'A bone fits an end if one of its halves has the value of the end'");
        Bonehall hall = whole("");
        lay(hall, "12", 0);
        for (int bone = 0; bone < 10; bone++) {
            for (int end = 0; end < 2; end++) {
                int value = end + 1;
                boolean due = hall.half(bone, false) == value || hall.half(bone, true) == value;
                Check.due("bone " + bone + " at " + value, due, hall.fits(bone, end));
            }
        }
        Check.due("the laid one too", true, hall.fits(5, 0));
        Check.refuses("bone 10", BOUNDS, hall, () -> hall.fits(10, 0));
        Check.refuses("end 2", BOUNDS, hall, () -> hall.fits(9, 2));
        Check.part("promise 21: 'if there is no such end, or it does not fit'");
        Check.refuses("33 does not", UNSUPPORTED, hall, () -> Scene.lay(hall, heldOf(hall, 0, 3, 9), 0));
        Check.refuses("no end 2", UNSUPPORTED, hall, () -> Scene.lay(hall, heldOf(hall, 1, 2, 4, 6, 7, 8), 2));
        Check.refuses("no end -1", UNSUPPORTED, hall, () -> Scene.lay(hall, heldOf(hall, 1, 2, 4, 6, 7, 8), -1));
    }

    /** One of these bones that who is to play has. */
    private static int heldOf(Bonehall hall, int... bones) {
        for (int bone : bones) {
            if (Scene.holds(hall, hall.turn(), bone)) {
                return bone;
            }
        }
        return -1;
    }

    private static void plainBoneHasOneNewEnd() {
        Check.part("'A bone that is no double then has one new end, the other half'");
        Bonehall lesser = whole("");
        lay(lesser, "12", 0);
        lay(lesser, "23", 1);
        due(lesser, "13", 4);
        Bonehall greater = whole("");
        lay(greater, "12", 0);
        lay(greater, "02", 1);
        due(greater, "10", 1);
    }

    private static void plainDoubleHasOne() {
        Check.part("'A double has one, of its value'");
        Bonehall hall = whole("");
        lay(hall, "12", 0);
        lay(hall, "22", 1);
        due(hall, "12", 5);
    }

    private static void spinnerHasThree() {
        Check.part("'but a spinner has three'");
        for (String rule : new String[] {"s", "x"}) {
            Bonehall hall = whole(rule);
            lay(hall, "12", 0);
            lay(hall, "22", 1);
            due(hall, "1222", 5);
        }
    }

    private static void spinnerHasFourAsTheFirst() {
        Check.part("'and four as the first bone'");
        for (String rule : new String[] {"s", "x", "sx"}) {
            Bonehall hall = whole(rule);
            lay(hall, "22", 0);
            due(hall, "2222", 4);
        }
        Bonehall without = whole("");
        lay(without, "22", 0);
        due(without, "22", 4);
    }

    private static void onlyTheFirstDoubleSpins() {
        Check.part("'each double is one by rule x, and only the first double of the round by rule s'");
        for (String rule : new String[] {"s", "x", "sx"}) {
            Bonehall hall = whole(rule);
            lay(hall, "22", 0);
            lay(hall, "12", 0);
            lay(hall, "11", 3);
            due(hall, rule.equals("s") ? "2221" : "222111", 6);
            lay(hall, "01", 3);
            due(hall, rule.equals("s") ? "2220" : "222110", 4);
        }
    }

    private static void firstDoubleOfEachRound() {
        Check.part("'only the first double of the round by rule s', in the next round again");
        Bonehall hall = whole("s");
        lay(hall, "22", 0);
        hall.pass();
        hall.pass();
        hall.deal(2);
        lay(hall, "12", 0);
        lay(hall, "11", 0);
        due(hall, "2111", 4);
        lay(hall, "22", 0);
        due(hall, "1112", 6);
    }

    /** Ten doubles, each a spinner, between 01, 12, .. 89: four ends by the first one, two more by each other one. */
    private static void mostEnds() {
        Check.part("promise 16: the most ends there can be");
        Bonehall hall = Scene.begun("rx", 9, 4, 9);
        hall.deal(4);
        int[] owners = Scene.owners(hall, 55, 4);
        for (int value = 0; value <= 9; value++) {
            fetch(hall, owners, hall.bone(value, value));
            fetch(hall, owners, hall.bone(value, Math.min(value + 1, 9)));
        }
        layBy(hall, owners[0], 0, 0);
        for (int value = 1; value <= 9; value++) {
            int joint = hall.bone(value - 1, value);
            layBy(hall, owners[joint], joint, hall.ends() - 1);
            Check.due("the last end", value, hall.endAt(hall.ends() - 1));
            int twice = hall.bone(value, value);
            layBy(hall, owners[twice], twice, hall.ends() - 1);
            Check.due("ends", 4 + 2 * value, hall.ends());
            Check.due("the last one alone of those with one bone at it counts", 2 * value, hall.sum());
        }
        Check.due("ends", "0001122334455667788999", Scene.ends(hall));
        Check.refuses("end 22", BOUNDS, hall, () -> hall.endAt(22));
        Check.due("sound", true, hall.isSound());
    }

    private static void layBy(Bonehall hall, int owner, int bone, int end) {
        int player = hall.turn();
        for (int times = 0; times < 3 && player != owner; times++) {
            player = hall.pass();
        }
        hall.play(bone, end);
    }

    /** Gives the bone to a player whose lowest one is not among those that are laid by mostEnds. */
    private static void fetch(Bonehall hall, int[] owners, int bone) {
        for (int player = 0; player < 4 && owners[bone] < 0; player++) {
            int lowest = hall.handAt(player, 0);
            if (hall.half(lowest, true) - hall.half(lowest, false) > 1) {
                Check.due("given", lowest, hall.give(player, bone));
                owners[lowest] = -1;
                owners[bone] = player;
            }
        }
    }

    private static void sumOfTwoHalves() {
        Check.part("promise 18: 'each open end of a bone that is no double .. counts its half'");
        Bonehall hall = whole("");
        lay(hall, "13", 0);
        due(hall, "13", 4);
        lay(hall, "12", 0);
        due(hall, "32", 5);
        lay(hall, "02", 1);
        due(hall, "30", 3);
    }

    private static void sumOfAPlainDouble() {
        Check.part("promise 18: 'of such a double the whole bone'");
        Bonehall hall = whole("");
        lay(hall, "13", 0);
        lay(hall, "33", 1);
        due(hall, "13", 7);
        lay(hall, "23", 1);
        due(hall, "12", 3);
    }

    private static void sumOfTheFirstPlainDouble() {
        Bonehall hall = whole("");
        Check.part("promise 18: 'both its ends together counting the whole bone once while none is played at'");
        lay(hall, "33", 0);
        due(hall, "33", 6);
        Check.part("promise 18: 'and then the one that is left counting the whole bone'");
        lay(hall, "23", 0);
        due(hall, "32", 8);
        lay(hall, "13", 0);
        due(hall, "21", 3);
        Bonehall last = whole("");
        lay(last, "33", 0);
        lay(last, "23", 1);
        due(last, "32", 8);
        lay(last, "12", 1);
        due(last, "31", 7);
    }

    private static void sumOfTheFirstSpinner() {
        Bonehall hall = whole("x");
        Check.part("promise 18: 'A spinner counts the whole bone while at most one bone is at it'");
        lay(hall, "33", 0);
        due(hall, "3333", 6);
        lay(hall, "23", 3);
        due(hall, "3332", 8);
        Check.part("promise 18: 'nothing later'");
        lay(hall, "13", 0);
        due(hall, "3321", 3);
        lay(hall, "03", 0);
        due(hall, "3210", 3);
    }

    private static void sumOfALaterSpinner() {
        Bonehall hall = whole("x");
        Check.part("promise 18: 'that at which it was played too'");
        lay(hall, "13", 0);
        lay(hall, "33", 1);
        due(hall, "1333", 7);
        lay(hall, "23", 2);
        due(hall, "1332", 3);
        lay(hall, "03", 1);
        due(hall, "1320", 3);
    }

    private static void sumOfTwoDoubles() {
        Check.part("promise 18: a spinner and a double that is none");
        Bonehall hall = whole("s");
        lay(hall, "33", 0);
        lay(hall, "23", 0);
        lay(hall, "22", 3);
        due(hall, "3332", 10);
        lay(hall, "12", 3);
        due(hall, "3331", 7);
        lay(hall, "13", 0);
        due(hall, "3311", 2);
    }

    private static void sumIsNewInEachRound() {
        Check.part("promise 18: what was at a bone in the last round is not at it in the next one");
        Bonehall hall = whole("");
        lay(hall, "33", 0);
        lay(hall, "23", 0);
        lay(hall, "13", 0);
        hall.pass();
        hall.pass();
        hall.deal(2);
        due(hall, "", 0);
        lay(hall, "33", 0);
        due(hall, "33", 6);
        lay(hall, "03", 0);
        due(hall, "30", 6);
    }

    private static void oldEndsAndDoublesAreGone() {
        Check.part("promises 16 to 18: ends and doubles of the last round do not count in the next one");
        Bonehall hall = whole("x");
        lay(hall, "33", 0);
        lay(hall, "23", 0);
        lay(hall, "22", 3);
        lay(hall, "12", 3);
        due(hall, "333221", 7);
        hall.pass();
        hall.pass();
        hall.deal(2);
        due(hall, "", 0);
        lay(hall, "01", 0);
        due(hall, "01", 1);
        lay(hall, "13", 1);
        due(hall, "03", 3);
        lay(hall, "23", 1);
        due(hall, "02", 2);
        lay(hall, "02", 1);
        due(hall, "00", 0);
    }

    private static void canPlayByTheBoneNought() {
        Check.part("promise 20: the bone 0 alone fits, or does not");
        Bonehall hall = Scene.dealt("r", 3, new int[] {0, 3}, new int[] {4, 7});
        Scene.lay(hall, 3, 0);
        Check.due("00 at 0 3", true, hall.canPlay(0));
        Check.due("11 and 22 at 0 3", false, hall.canPlay(1));
        Bonehall other = Scene.dealt("r", 3, new int[] {0, 6}, new int[] {4, 7});
        Scene.lay(other, 6, 0);
        Check.due("00 at 1 3", false, other.canPlay(0));
        Check.due("11 at 1 3", true, other.canPlay(1));
    }

    private static void laidInTheirOrder() {
        Check.part("promise 15: 'the index, from 0, as they were laid'");
        Bonehall hall = whole("");
        int[] bones = {5, 8, 1, 0, 6};
        int[] at = {0, 1, 0, 1, 0};
        for (int index = 0; index < bones.length; index++) {
            Scene.lay(hall, bones[index], at[index]);
            Check.due("laid", index + 1, hall.laid());
            for (int before = 0; before <= index; before++) {
                Check.due("laidAt " + before, bones[before], hall.laidAt(before));
            }
            int next = index + 1;
            Check.refuses("the next", NONE, hall, () -> hall.laidAt(next));
        }
    }
}
