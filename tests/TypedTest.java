/** Promises 34 to 38: typed bones, their rows and rings, and tricks. */
public final class TypedTest implements Refusals {
    public static void main(String[] args) {
        type();
        wipe();
        rowsAndRings();
        trick();
        trickRefuses();
        Check.end("TypedTest");
    }

    private static void type() {
        Check.part("promise 34");
        Bonehall hall = Scene.begun("", 9, 2, 2);
        for (int bone = 0; bone < 9; bone++) {
            int twice = bone;
            Check.due("how many", bone + 1, hall.type(bone * 6));
            Check.refuses("typed", UNSUPPORTED, hall, () -> hall.type(twice * 6));
        }
        Check.refuses("a tenth", STATE, hall, () -> hall.type(1));
        Check.refuses("one of nine", UNSUPPORTED, hall, () -> hall.type(0));
        Check.refuses("bone 55", BOUNDS, hall, () -> hall.type(55));
        Check.refuses("bone -1", BOUNDS, hall, () -> hall.type(-1));
        hall.wipe();
        Check.due("anew", 1, hall.type(54));
        hall.deal(1);
        Check.due("a deal leaves them", 2, hall.type(0));
        hall.close();
        hall.begin(3, 2, 2);
        Check.due("none is typed any more", 1, hall.type(0));
        hall.begin(3, 2, 2);
        Check.due("again none", 1, hall.type(0));
    }

    private static void wipe() {
        Check.part("promise 35");
        Bonehall hall = Scene.begun("", 3, 2, 2);
        Check.due("nothing", 0, hall.wipe());
        hall.type(3);
        hall.type(1);
        Check.due("two", 2, hall.wipe());
        Check.due("nothing", 0, hall.wipe());
        Check.due("no rows", 0, hall.rows());
        Check.due("no rings", 0, hall.rings());
        Check.due("it can be typed again", 1, hall.type(3));
    }

    /** Rows and rings of bones that are written as pairs of halves. */
    private static void rowsAndRings() {
        count("", 0, 0);
        count("00", 1, 1);
        count("01", 2, 0);
        count("01 12", 2, 0);
        count("12 01", 2, 0);
        count("01 23", 0, 0);
        count("00 11", 0, 0);
        count("00 01 11", 2, 0);
        count("01 02 03", 0, 0);
        count("01 12 02", 6, 6);
        count("01 12 02 11", 8, 8);
        count("01 12 02 11 00", 10, 10);
        // The triangle 0 1 2 with a tail at 0: both ways round, from the tail or to it.
        count("01 12 02 03", 4, 0);
        // Two triangles at 0: each one round in two ways, and six bones to start with.
        count("01 12 02 03 34 04", 24, 24);
        count("01 12 23 34 45 56 67 78 89", 2, 0);
        count("01 12 23 34 45 56 67 78 08", 18, 18);
        count("00 11 22 33 44 55 66 77 88", 0, 0);
    }

    private static void count(String bones, int rows, int rings) {
        Bonehall hall = Scene.begun("", 9, 2, 2);
        for (String bone : bones.split(" ")) {
            if (!bone.isEmpty()) {
                hall.type(hall.bone(bone.charAt(0) - '0', bone.charAt(1) - '0'));
            }
        }
        Check.part("promise 36");
        Check.due("rows of " + bones, rows, hall.rows());
        Check.part("promise 37");
        Check.due("rings of " + bones, rings, hall.rings());
    }

    private static int win(int trump, String bones) {
        Bonehall hall = Scene.begun("", 6, 2, 2);
        int[] four = new int[4];
        for (int i = 0; i < 4; i++) {
            four[i] = hall.bone(bones.charAt(3 * i) - '0', bones.charAt(3 * i + 1) - '0');
        }
        return hall.trick(trump, four[0], four[1], four[2], four[3]);
    }

    private static void trick() {
        Check.part("promise 38");
        Check.due("the double of the kind", 2, win(-1, "25 56 55 66"));
        Check.due("the greater other half", 1, win(-1, "25 56 35 66"));
        Check.due("a half of the kind as the lesser one", 3, win(-1, "04 14 24 45"));
        Check.due("the first one's lesser half does not count", 0, win(-1, "25 26 22 12"));
        Check.due("none of the kind", 0, win(-1, "12 33 44 55"));
        Check.due("a trump beats the double of the kind", 1, win(0, "35 01 55 56"));
        Check.due("the greater of the trumps", 2, win(0, "35 01 02 55"));
        Check.due("the double of the trumps", 3, win(0, "35 01 06 00"));
        Check.due("the double as the first", 0, win(0, "00 01 06 55"));
        Check.due("the first is a trump by its lesser half", 0, win(1, "14 44 46 45"));
        Check.due("the other half may be the lesser one", 2, win(3, "03 13 23 66"));
        Check.due("the other half may be the greater one", 1, win(3, "23 36 03 66"));
        Check.due("a bone of the kind with a trump is a trump", 1, win(6, "25 56 55 45"));
        Check.due("no trump is a kind like others", 0, win(-1, "66 06 16 26"));
        Check.due("the kind is told by the first", 0, win(-1, "46 55 45 35"));
        Check.due("of the kind though lower", 3, win(2, "01 33 44 11"));
        Check.due("a low trump", 3, win(0, "66 56 46 01"));
        Bonehall nine = Scene.begun("", 9, 2, 2);
        Check.due("a low double is above 8 and 9 halves", 3,
                nine.trick(-1, nine.bone(0, 1), nine.bone(1, 9), nine.bone(1, 8), nine.bone(1, 1)));
        Check.due("the kind is the greater half", 0,
                nine.trick(-1, nine.bone(1, 9), nine.bone(1, 8), nine.bone(8, 8), nine.bone(1, 1)));
        Check.due("the lowest trump beats the highest double", 3,
                nine.trick(0, nine.bone(8, 9), nine.bone(9, 9), nine.bone(7, 9), nine.bone(0, 1)));
    }

    private static void trickRefuses() {
        Bonehall none = new Bonehall();
        Check.refuses("no match", BOUNDS, none, () -> none.trick(-1, 0, 1, 2, 3));
        Bonehall hall = Scene.begun("", 3, 2, 2);
        for (int bad : new int[] {-1, 10, Integer.MAX_VALUE}) {
            Check.refuses("one", BOUNDS, hall, () -> hall.trick(9, bad, 1, 2, 3));
            Check.refuses("two", BOUNDS, hall, () -> hall.trick(0, 1, bad, 2, 3));
            Check.refuses("three", BOUNDS, hall, () -> hall.trick(0, 1, 2, bad, 3));
            Check.refuses("four", BOUNDS, hall, () -> hall.trick(0, 1, 1, 2, bad));
        }
        Check.refuses("trump 4", ILLEGAL, hall, () -> hall.trick(4, 0, 1, 2, 3));
        Check.refuses("trump -2", ILLEGAL, hall, () -> hall.trick(-2, 0, 1, 2, 3));
        int[][] same = {{0, 0, 1, 2}, {0, 1, 0, 2}, {0, 1, 2, 0}, {1, 0, 0, 2}, {1, 0, 2, 0}, {1, 2, 0, 0}};
        for (int[] four : same) {
            Check.refuses("two alike", ILLEGAL, hall, () -> hall.trick(0, four[0], four[1], four[2], four[3]));
        }
        Check.due("trump 3", 3, hall.trick(3, 0, 1, 2, 3));
    }
}
