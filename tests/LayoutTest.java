/** Promises 14 to 20: what is laid, the open ends, their sum, and what fits. */
public final class LayoutTest implements Refusals {
    private static final int[] FIRST = {1, 4, 6, 7};
    private static final int[] SECOND = {2, 3, 5, 8};

    public static void main(String[] args) {
        plainDouble();
        firstDoubleSpins();
        allDoublesSpin();
        bothRulesSpin();
        laterSpinner();
        plainFirstBone();
        laid();
        fits();
        canPlay();
        Check.end("LayoutTest");
    }

    /** The ends, as digits, and their sum. */
    private static void look(Bonehall hall, String ends, int sum) {
        StringBuilder text = new StringBuilder();
        for (int end = 0; end < hall.ends(); end++) {
            text.append(hall.endAt(end));
        }
        Check.part("promises 16 and 17");
        Check.due("ends", ends, text.toString());
        Check.part("promise 18");
        Check.due("sum at " + ends, sum, hall.sum());
        Check.due("sound", true, hall.isSound());
    }

    private static void plainDouble() {
        Bonehall hall = Scene.dealt("", 3, FIRST, SECOND);
        look(hall, "", 0);
        hall.play(4, 77);
        look(hall, "11", 2);
        hall.play(5, 1);
        look(hall, "12", 4);
        hall.play(7, 1);
        look(hall, "12", 6);
        hall.play(2, 1);
        look(hall, "10", 2);
        hall.play(1, 0);
        look(hall, "00", 0);
        hall.play(3, 0);
        look(hall, "03", 3);
        hall.play(6, 1);
        look(hall, "01", 1);
    }

    private static void firstDoubleSpins() {
        Bonehall hall = Scene.dealt("s", 3, FIRST, SECOND);
        hall.play(4, -1);
        look(hall, "1111", 2);
        hall.play(5, 2);
        look(hall, "1112", 4);
        hall.play(7, 3);
        look(hall, "1112", 6);
        hall.play(2, 3);
        look(hall, "1110", 2);
        hall.play(1, 0);
        look(hall, "1100", 0);
        hall.play(3, 2);
        look(hall, "1103", 3);
        hall.play(6, 0);
        look(hall, "1033", 6);
        Check.due("the last bone's points", 5, hall.points(0));
    }

    private static void allDoublesSpin() {
        Bonehall hall = Scene.dealt("x", 3, FIRST, SECOND);
        hall.play(4, 0);
        look(hall, "1111", 2);
        hall.play(5, 0);
        look(hall, "1112", 4);
        hall.play(7, 3);
        look(hall, "111222", 6);
        hall.play(2, 4);
        look(hall, "111220", 2);
        hall.play(1, 5);
        look(hall, "111221", 3);
        hall.play(8, 3);
        look(hall, "111213", 6);
    }

    private static void bothRulesSpin() {
        Bonehall hall = Scene.dealt("sx", 3, FIRST, SECOND);
        hall.play(4, 0);
        hall.play(5, 0);
        hall.play(7, 3);
        look(hall, "111222", 6);
    }

    private static void laterSpinner() {
        Bonehall hall = Scene.dealt("s", 3, FIRST, SECOND);
        hall.play(1, 0);
        look(hall, "01", 1);
        hall.play(5, 1);
        look(hall, "02", 2);
        hall.play(7, 1);
        look(hall, "0222", 4);
        hall.play(2, 2);
        look(hall, "0220", 0);
        hall.close();
        Bonehall without = Scene.dealt("", 3, FIRST, SECOND);
        without.play(1, 0);
        without.play(5, 1);
        without.play(7, 1);
        look(without, "02", 4);
        without.play(2, 1);
        look(without, "00", 0);
    }

    private static void plainFirstBone() {
        Bonehall hall = Scene.dealt("", 3, FIRST, SECOND);
        hall.play(6, 5);
        look(hall, "13", 4);
        hall.play(8, 1);
        look(hall, "12", 3);
        hall.play(7, 1);
        look(hall, "12", 5);
        hall.play(5, 0);
        look(hall, "22", 6);
        Check.part("promise 16");
        Check.due("no end 2", 2, hall.ends());
        Check.part("promise 17");
        Check.refuses("end 2", BOUNDS, hall, () -> hall.endAt(2));
        Check.refuses("end -1", BOUNDS, hall, () -> hall.endAt(-1));
    }

    private static void laid() {
        Bonehall hall = Scene.dealt("", 3, FIRST, SECOND);
        Check.part("promise 14");
        Check.due("none", 0, hall.laid());
        Check.part("promise 15");
        Check.refuses("none", NONE, hall, () -> hall.laidAt(0));
        hall.play(7, 0);
        hall.play(5, 0);
        hall.play(6, 1);
        Check.due("the first", 7, hall.laidAt(0));
        Check.due("the second", 5, hall.laidAt(1));
        Check.due("the third", 6, hall.laidAt(2));
        Check.refuses("the fourth", NONE, hall, () -> hall.laidAt(3));
        Check.refuses("index -1", NONE, hall, () -> hall.laidAt(-1));
        Check.part("promise 14");
        Check.due("three", 3, hall.laid());
        hall.play(8, 1);
        Check.due("four", 4, hall.laid());
    }

    private static void fits() {
        Check.part("promise 19");
        Bonehall hall = Scene.dealt("", 3, FIRST, SECOND);
        Check.refuses("nothing is laid", BOUNDS, hall, () -> hall.fits(0, 0));
        hall.play(6, 0);
        boolean[] atOne = {false, true, false, false, true, true, true, false, false, false};
        boolean[] atThree = {false, false, false, true, false, false, true, false, true, true};
        for (int bone = 0; bone < 10; bone++) {
            Check.due("bone " + bone + " at 1", atOne[bone], hall.fits(bone, 0));
            Check.due("bone " + bone + " at 3", atThree[bone], hall.fits(bone, 1));
        }
        Check.refuses("end 2", BOUNDS, hall, () -> hall.fits(0, 2));
        Check.refuses("end -1", BOUNDS, hall, () -> hall.fits(0, -1));
        Check.refuses("bone 10", BOUNDS, hall, () -> hall.fits(10, 0));
        Check.refuses("bone -1", BOUNDS, hall, () -> hall.fits(-1, 0));
    }

    private static void canPlay() {
        Check.part("promise 20");
        Bonehall hall = Scene.begun("", 3, 2, 2);
        Check.refuses("before a round", STATE, hall, () -> hall.canPlay(0));
        Check.refuses("player 2 before a round", BOUNDS, hall, () -> hall.canPlay(2));
        hall.deal(Scene.seedFor(3, new int[] {1, 4}, new int[] {2, 3}));
        Check.due("nothing is laid", true, hall.canPlay(0));
        Check.due("nothing is laid", true, hall.canPlay(1));
        hall.play(4, 0);
        Check.due("01 at 11", true, hall.canPlay(0));
        Check.due("02 and 03 at 11", false, hall.canPlay(1));
        Check.refuses("player -1", BOUNDS, hall, () -> hall.canPlay(-1));
        hall.pass();
        hall.play(1, 1);
        Check.refuses("after the round", STATE, hall, () -> hall.canPlay(1));
    }
}
