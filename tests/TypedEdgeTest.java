import java.util.ArrayList;
import java.util.List;

/** The edges that the term Rows, rings, tricks and the promises 34 to 38 name, a sentence a test. */
public final class TypedEdgeTest implements Refusals {
    public static void main(String[] args) {
        nothingTyped();
        nineTyped();
        eachOnce();
        noSuchBone();
        noneAsAMatchIsBegun();
        noneAsAMatchIsEnded();
        leftByAllElse();
        wiped();
        aDoubleInOneWay();
        halvesThatMeet();
        ringsAlike();
        highestValue();
        tried();
        trumps();
        twoTheSame();
        noSuchBoneInATrick();
        ofTheTrump();
        ofTheFirstKind();
        noneOfAKindThatDoesNotCount();
        Check.end("TypedEdgeTest");
    }

    /** A hall with these bones typed, each written as two halves. */
    private static Bonehall typed(int highest, String bones) {
        Bonehall hall = Scene.begun("", highest, 2, 2);
        for (String halves : bones.split(" ")) {
            hall.type(hall.bone(halves.charAt(0) - '0', halves.charAt(1) - '0'));
        }
        return hall;
    }

    private static void due(int highest, String bones, int rows, int rings) {
        Bonehall hall = typed(highest, bones);
        Check.due("rows of " + bones, rows, hall.rows());
        Check.due("rings of " + bones, rings, hall.rings());
        Check.due("rows once more", rows, hall.rows());
        Check.due("still typed", bones.split(" ").length, hall.wipe());
    }

    private static void nothingTyped() {
        Check.part("promises 35 to 37: '0 if nothing is typed'");
        for (Bonehall hall : new Bonehall[] {new Bonehall(), Scene.begun("", 3, 2, 2), Scene.begun("", 9, 4, 9)}) {
            Check.due("rows", 0, hall.rows());
            Check.due("rings", 0, hall.rings());
            Check.due("wipe", 0, hall.wipe());
        }
    }

    private static void nineTyped() {
        Check.part("promise 34: 'at most 9', 'if there are 9'");
        Bonehall hall = Scene.begun("", 3, 2, 2);
        for (int bone = 1; bone <= 9; bone++) {
            Check.due("how many", bone, hall.type(bone));
        }
        Check.refuses("a tenth", STATE, hall, () -> hall.type(0));
        Check.refuses("one that is typed", UNSUPPORTED, hall, () -> hall.type(9));
        Check.refuses("none", BOUNDS, hall, () -> hall.type(10));
        Check.due("nine stay", 9, hall.wipe());
        Check.due("then one can", 1, hall.type(0));
    }

    private static void eachOnce() {
        Check.part("promise 34: 'if it is typed'");
        Bonehall hall = Scene.begun("", 3, 2, 2);
        for (int bone = 0; bone < 5; bone++) {
            Check.due("how many", bone + 1, hall.type(bone));
            for (int before = 0; before <= bone; before++) {
                int any = before;
                Check.refuses("bone " + before, UNSUPPORTED, hall, () -> hall.type(any));
            }
        }
    }

    private static void noSuchBone() {
        Check.part("promise 34: 'if there is no such bone'");
        for (int highest = 3; highest <= 9; highest++) {
            int bones = (highest + 1) * (highest + 2) / 2;
            Bonehall hall = Scene.begun("", highest, 2, 2);
            Check.due("the first", 1, hall.type(0));
            Check.due("the last", 2, hall.type(bones - 1));
            Check.refuses("one more", BOUNDS, hall, () -> hall.type(bones));
            Check.refuses("one less", BOUNDS, hall, () -> hall.type(-1));
            Check.refuses("the least int", BOUNDS, hall, () -> hall.type(Integer.MIN_VALUE));
        }
    }

    private static void noneAsAMatchIsBegun() {
        Check.part("promise 3: 'as a match is begun .. none is typed any more'");
        Bonehall hall = typed(3, "00 01 11");
        hall.begin(3, 2, 2);
        Check.due("rows", 0, hall.rows());
        Check.due("typed", 0, hall.wipe());
        hall.type(4);
        Check.refuses("a match that is not begun", ILLEGAL, hall, () -> hall.begin(2, 2, 2));
        Check.refuses("too few", UNSUPPORTED, hall, () -> hall.begin(3, 4, 3));
        Check.due("it is typed still", 1, hall.wipe());
    }

    private static void noneAsAMatchIsEnded() {
        Check.part("promise 5: 'or ended, none is typed any more'");
        Bonehall hall = typed(3, "00 01 11");
        hall.close();
        Check.due("rows", 0, hall.rows());
        Check.due("typed", 0, hall.wipe());
        hall.begin(3, 2, 2);
        Check.due("not in the next match", 0, hall.wipe());
    }

    private static void leftByAllElse() {
        Check.part("promise 34: a round leaves what is typed");
        Bonehall hall = typed(3, "01 12");
        hall.deal(Scene.seedFor(3, new int[] {1, 4}, new int[] {2, 3}));
        Check.due("dealt", 2, hall.rows());
        hall.play(4, 0);
        hall.pass();
        Check.due("a laid bone can be typed", 3, hall.type(4));
        hall.play(1, 0);
        Check.due("over", 2, hall.rows());
        hall.deal(5);
        Check.due("three", 3, hall.wipe());
    }

    private static void wiped() {
        Check.part("promise 35: 'how many there were'");
        Bonehall hall = typed(3, "00 01 11");
        Check.due("three", 3, hall.wipe());
        Check.due("none", 0, hall.wipe());
        Check.due("rows", 0, hall.rows());
        Check.due("the same can be typed", 1, hall.type(0));
        Check.due("one row", 1, hall.rows());
    }

    private static void aDoubleInOneWay() {
        Check.part("promise 36: 'each turned in one of its ways, a double in one'");
        due(3, "00", 1, 1);
        due(3, "01", 2, 0);
        due(3, "01 11", 2, 0);
        due(3, "00 01 11", 2, 0);
        Check.part("promise 36: 'the same one read from the other end is another row'");
        due(3, "01 12", 2, 0);
        due(4, "01 12 23 34", 2, 0);
    }

    private static void halvesThatMeet() {
        Check.part("promise 36: 'so that halves that meet are alike', 'all of them'");
        due(3, "01 23", 0, 0);
        due(3, "00 11", 0, 0);
        due(3, "01 02 03", 0, 0);
        due(9, "00 11 22 33 44 55 66 77 99", 0, 0);
        due(9, "01 12 23 34 45 56 67 78 89", 2, 0);
    }

    private static void ringsAlike() {
        Check.part("promise 37: 'a row whose outer halves are alike'");
        due(3, "01 12 02", 6, 6);
        due(3, "01 12 02 00", 8, 8);
        due(3, "01 12 02 03", 4, 0);
        due(9, "01 12 23 34 45 56 67 78 08", 18, 18);
    }

    private static void highestValue() {
        for (int highest = 3; highest <= 9; highest++) {
            Check.part("promises 36 and 37: with the value " + highest);
            int low = highest - 1;
            due(highest, "" + highest + highest, 1, 1);
            due(highest, "0" + highest + " 0" + low + " " + low + highest, 6, 6);
            due(highest, "0" + highest + " " + highest + highest, 2, 0);
        }
    }

    /** Bones that are put behind each other in each order and turned in each way. */
    private static void tried() {
        Check.part("promises 36 and 37: each order and each way tried");
        String[] all = {"00 01 02 11 12 22", "01 02 03 12 13", "01 02 03 12 13 23", "00 01 11 12 22 02", "03 13 23 33",
            "01 12 23 03 02", "00 03 33", "11 12 22 23 33 13"};
        for (String bones : all) {
            List<int[]> left = new ArrayList<>();
            for (String halves : bones.split(" ")) {
                left.add(new int[] {halves.charAt(0) - '0', halves.charAt(1) - '0'});
            }
            int[] found = new int[2];
            tryAll(left, -1, -1, found);
            due(3, bones, found[0], found[1]);
        }
    }

    private static void tryAll(List<int[]> left, int first, int last, int[] found) {
        if (left.isEmpty()) {
            found[0]++;
            found[1] += first == last ? 1 : 0;
        }
        for (int index = 0; index < left.size(); index++) {
            int[] bone = left.remove(index);
            for (int way = 0; way < (bone[0] == bone[1] ? 1 : 2); way++) {
                if (last < 0 || bone[way] == last) {
                    tryAll(left, first < 0 ? bone[way] : first, bone[1 - way], found);
                }
            }
            left.add(index, bone);
        }
    }

    private static int win(int highest, int trump, String bones) {
        Bonehall hall = Scene.begun("", highest, 2, 2);
        int[] four = new int[4];
        for (int place = 0; place < 4; place++) {
            four[place] = hall.bone(bones.charAt(3 * place) - '0', bones.charAt(3 * place + 1) - '0');
        }
        return trickOf(hall, trump, four);
    }

    private static int trickOf(Bonehall hall, int trump, int[] four) {
        return hall.trick(trump, four[0], four[1], four[2], four[3]);
    }

    private static void trumps() {
        Check.part("promise 38: 'the trump, -1 for none', 'if there is no such trump'");
        for (int highest = 3; highest <= 9; highest++) {
            int top = highest;
            Bonehall hall = Scene.begun("", highest, 2, 2);
            Check.due("none", 0, hall.trick(-1, 1, 0, 2, 3));
            Check.due("the lowest", 1, hall.trick(0, 1, 0, 2, 3));
            Check.due("the highest, 0 " + top, 3, hall.trick(top, 0, 1, 2, top));
            Check.refuses("one more", ILLEGAL, hall, () -> hall.trick(top + 1, 1, 0, 2, 3));
            Check.refuses("one less", ILLEGAL, hall, () -> hall.trick(-2, 1, 0, 2, 3));
            Check.refuses("the least int", ILLEGAL, hall, () -> hall.trick(Integer.MIN_VALUE, 1, 0, 2, 3));
            Check.refuses("the greatest int", ILLEGAL, hall, () -> hall.trick(Integer.MAX_VALUE, 1, 0, 2, 3));
        }
    }

    private static void twoTheSame() {
        Check.part("promise 38: 'or two bones are the same'");
        Bonehall hall = Scene.begun("", 3, 2, 2);
        for (int one = 0; one < 4; one++) {
            for (int two = one + 1; two < 4; two++) {
                int[] four = {0, 1, 2, 3};
                four[two] = four[one];
                Check.refuses(one + " and " + two, ILLEGAL, hall, () -> trickOf(hall, 0, four));
                Check.refuses(one + " and " + two, ILLEGAL, hall, () -> trickOf(hall, -1, four));
            }
        }
    }

    private static void noSuchBoneInATrick() {
        Check.part("promise 38: 'if there is no such bone, for any', before all else");
        for (int place = 0; place < 4; place++) {
            Bonehall hall = Scene.begun("", 3, 2, 2);
            for (int bad : new int[] {-1, 10, Integer.MIN_VALUE, Integer.MAX_VALUE}) {
                int[] four = {0, 1, 2, 3};
                four[place] = bad;
                Check.refuses("at " + place, BOUNDS, hall, () -> trickOf(hall, 0, four));
                Check.refuses("no trump, at " + place, BOUNDS, hall, () -> trickOf(hall, 4, four));
                four[place == 0 ? 1 : 0] = bad;
                Check.refuses("the same twice", BOUNDS, hall, () -> trickOf(hall, 0, four));
            }
        }
        Bonehall none = new Bonehall();
        Check.refuses("no match", BOUNDS, none, () -> none.trick(-1, 0, 1, 2, 3));
    }

    private static void ofTheTrump() {
        Check.part("promise 38: 'of the trump if a half has it', by either half");
        Check.due("the greater half", 1, win(6, 3, "66 03 56 26"));
        Check.due("the lesser half", 1, win(6, 3, "66 36 56 26"));
        Check.part("promise 38: 'Bones of the trump beat all others'");
        Check.due("the least trump beats the kind's double", 3, win(6, 0, "56 66 46 01"));
        Check.part("promise 38: 'of the trumps .. the double is the highest'");
        Check.due("00 beats 06", 2, win(6, 0, "56 06 00 05"));
        Check.due("00 as the first", 0, win(6, 0, "00 06 05 04"));
        Check.part("promise 38: 'then that with the greater other half'");
        Check.due("36 beats 34 and 03", 2, win(6, 3, "03 34 36 35"));
        Check.due("03 beats nothing of it", 1, win(6, 3, "03 13 66 56"));
        Check.due("16 as the first one makes no kind of the 6", 0, win(6, 1, "16 66 56 46"));
    }

    private static void ofTheFirstKind() {
        Check.part("promise 38: 'otherwise of its greater half', 'or with a half of this'");
        Check.due("its greater half", 2, win(6, -1, "25 22 35 24"));
        Check.due("with a half of this, which is the lesser one", 1, win(6, -1, "25 56 22 24"));
        Check.due("without a trump", 1, win(6, -1, "01 11 00 02"));
        Check.part("promise 38: 'of that kind, the double is the highest'");
        Check.due("55 beats 56", 2, win(6, -1, "25 56 55 45"));
        Check.due("00 as the kind", 0, win(6, -1, "00 01 02 03"));
        Check.part("promise 38: 'then that with the greater other half', of the kind");
        Check.due("56 beats 45", 3, win(6, -1, "05 15 45 56"));
        Check.due("the first stays", 0, win(6, -1, "56 05 15 45"));
    }

    private static void noneOfAKindThatDoesNotCount() {
        Check.part("promise 38: 'None of a kind that does not count beats another one'");
        Check.due("doubles of other kinds", 0, win(6, -1, "01 22 33 66"));
        Check.due("behind the first one's lesser half", 0, win(6, -1, "01 00 05 06"));
        Check.due("of three that do not count none beats", 2, win(6, -1, "02 66 12 55"));
        Check.due("with a trump that nobody has", 0, win(6, 4, "01 22 33 66"));
    }
}
