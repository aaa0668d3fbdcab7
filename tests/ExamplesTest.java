/** The two examples of the document, call by call. */
public final class ExamplesTest {
    public static void main(String[] args) {
        Check.part("first example");
        Bonehall one = new Bonehall();
        Check.due("begin(3, 2, 2)", 10, one.begin(3, 2, 2));
        Check.due("bone(1, 2)", 5, one.bone(1, 2));
        Check.due("half(5, true)", 2, one.half(5, true));
        Check.due("type(0)", 1, one.type(0));
        Check.due("type(1)", 2, one.type(1));
        Check.due("rows()", 2, one.rows());
        Check.due("rings()", 0, one.rings());
        Check.due("trick(1, 0, 1, 2, 4)", 3, one.trick(1, 0, 1, 2, 4));

        Check.part("second example");
        Bonehall two = new Bonehall();
        Check.refuses("turn()", IllegalStateException.class, two, two::turn);
        Check.due("begin(9, 2, 2)", 55, two.begin(9, 2, 2));
        Check.due("rounds()", 0, two.rounds());
        Check.due("yard()", 0, two.yard());
        Check.due("bone(0, 0)", 0, two.bone(0, 0));
        Check.due("bone(9, 9)", 54, two.bone(9, 9));
        Check.due("laidShare()", 0.0f, two.laidShare());
        Check.end("ExamplesTest");
    }
}
