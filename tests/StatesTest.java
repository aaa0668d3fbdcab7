import java.util.NoSuchElementException;
import java.util.function.Function;

/**
 * Each method in each state that a hall can be in: new, with a match begun, with a round dealt, with something laid,
 * with the round over, and closed. A row has the call and six answers, in which I, S, B, U, N and A are exceptions.
 *
 * The round is one of a set to three. The player 0 has 01 and 11, the player 1 has 02 and 03; 11 is laid, and then,
 * after a pass, 01, which wins.
 */
public final class StatesTest {
    private static final int STATES = 6;
    private static final String[] NAMES = {"new", "begun", "dealt", "laid", "over", "closed"};

    public static void main(String[] args) {
        rulesAndMatches();
        bones();
        hands();
        layout();
        moves();
        knowledge();
        endings();
        typed();
        measures();
        Check.end("StatesTest");
    }

    private static Bonehall hallIn(int state) {
        Bonehall hall = new Bonehall();
        if (state > 0) {
            hall.begin(3, 2, 2);
        }
        if (state > 1) {
            hall.deal(Scene.seedFor(3, new int[] {1, 4}, new int[] {2, 3}));
        }
        if (state > 2) {
            hall.play(4, 0);
        }
        if (state > 3) {
            hall.pass();
            hall.play(1, 0);
        }
        if (state > 4) {
            hall.close();
        }
        return hall;
    }

    private static void row(String call, Function<Bonehall, Object> asked, String answers) {
        String[] due = answers.split(" ");
        Check.due(call + " has an answer for each state", STATES, due.length);
        for (int state = 0; state < STATES; state++) {
            Bonehall hall = hallIn(state);
            Class<? extends RuntimeException> exception = exceptionOf(due[state]);
            if (exception != null) {
                Check.refuses(call + ", " + NAMES[state], exception, hall, () -> asked.apply(hall));
            } else {
                Check.due(call + ", " + NAMES[state], due[state], String.valueOf(asked.apply(hall)));
            }
        }
    }

    private static Class<? extends RuntimeException> exceptionOf(String letter) {
        return switch (letter) {
            case "I" -> IllegalArgumentException.class;
            case "S" -> IllegalStateException.class;
            case "B" -> IndexOutOfBoundsException.class;
            case "U" -> UnsupportedOperationException.class;
            case "N" -> NoSuchElementException.class;
            case "A" -> ArithmeticException.class;
            default -> null;
        };
    }

    private static void rulesAndMatches() {
        Check.part("promise 2, exceptions");
        row("rule(z)", hall -> hall.rule('z', true), "I I I I I I");
        row("rule(f)", hall -> hall.rule('f', true), "false S S S S false");
        Check.part("promise 3, exceptions");
        row("begin(2, 2, 2)", hall -> hall.begin(2, 2, 2), "I I I I I I");
        row("begin(10, 2, 2)", hall -> hall.begin(10, 2, 2), "I I I I I I");
        row("begin(3, 1, 2)", hall -> hall.begin(3, 1, 2), "I I I I I I");
        row("begin(3, 5, 2)", hall -> hall.begin(3, 5, 2), "I I I I I I");
        row("begin(3, 2, 1)", hall -> hall.begin(3, 2, 1), "I I I I I I");
        row("begin(9, 2, 10)", hall -> hall.begin(9, 2, 10), "I I I I I I");
        row("begin(3, 4, 3)", hall -> hall.begin(3, 4, 3), "U U U U U U");
        row("begin(3, 2, 5)", hall -> hall.begin(3, 2, 5), "10 10 S S S 10");
        row("begin(9, 4, 9)", hall -> hall.begin(9, 4, 9), "55 55 S S S 55");
        Check.part("promise 4, exceptions");
        row("deal(0)", hall -> hall.deal(0), "S 1 S S 0 S");
        Check.part("promise 5");
        row("close()", Bonehall::close, "0 0 1 1 1 0");
    }

    private static void bones() {
        Check.part("promise 6, exceptions");
        row("bone(0, 0)", hall -> hall.bone(0, 0), "S 0 0 0 0 S");
        row("bone(3, 3)", hall -> hall.bone(3, 3), "S 9 9 9 9 S");
        row("bone(3, 4)", hall -> hall.bone(3, 4), "S I I I I S");
        row("bone(4, 3)", hall -> hall.bone(4, 3), "S I I I I S");
        row("bone(-1, 0)", hall -> hall.bone(-1, 0), "S I I I I S");
        row("bone(0, -1)", hall -> hall.bone(0, -1), "S I I I I S");
        Check.part("promise 7, exceptions");
        row("half(0, true)", hall -> hall.half(0, true), "B 0 0 0 0 B");
        row("half(9, false)", hall -> hall.half(9, false), "B 3 3 3 3 B");
        row("half(10, true)", hall -> hall.half(10, true), "B B B B B B");
        row("half(-1, false)", hall -> hall.half(-1, false), "B B B B B B");
    }

    private static void hands() {
        Check.part("promise 8, exceptions");
        row("inHand(0)", hall -> hall.inHand(0), "B 0 2 1 0 B");
        row("inHand(1)", hall -> hall.inHand(1), "B 0 2 2 2 B");
        row("inHand(2)", hall -> hall.inHand(2), "B B B B B B");
        row("inHand(-1)", hall -> hall.inHand(-1), "B B B B B B");
        Check.part("promise 9, exceptions");
        row("handAt(0, 0)", hall -> hall.handAt(0, 0), "B N 1 1 N B");
        row("handAt(0, 1)", hall -> hall.handAt(0, 1), "B N 4 N N B");
        row("handAt(1, 2)", hall -> hall.handAt(1, 2), "B N N N N B");
        row("handAt(1, -1)", hall -> hall.handAt(1, -1), "B N N N N B");
        row("handAt(2, -1)", hall -> hall.handAt(2, -1), "B B B B B B");
        row("handAt(-1, 0)", hall -> hall.handAt(-1, 0), "B B B B B B");
        Check.part("promise 10, exceptions");
        row("pips(0)", hall -> hall.pips(0), "B 0 3 1 0 B");
        row("pips(1)", hall -> hall.pips(1), "B 0 5 5 5 B");
        row("pips(2)", hall -> hall.pips(2), "B B B B B B");
        row("pips(-1)", hall -> hall.pips(-1), "B B B B B B");
        Check.part("promise 11");
        row("yard()", Bonehall::yard, "0 0 6 6 6 0");
        Check.part("promise 12, exceptions");
        row("give(0, 9)", hall -> hall.give(0, 9), "B S 1 U S B");
        row("give(1, 0)", hall -> hall.give(1, 0), "B S 2 U S B");
        row("give(0, 1)", hall -> hall.give(0, 1), "B S U U S B");
        row("give(0, 2)", hall -> hall.give(0, 2), "B S U U S B");
        row("give(0, 10)", hall -> hall.give(0, 10), "B B B B B B");
        row("give(0, -1)", hall -> hall.give(0, -1), "B B B B B B");
        row("give(2, 9)", hall -> hall.give(2, 9), "B B B B B B");
        row("give(-1, 9)", hall -> hall.give(-1, 9), "B B B B B B");
    }

    private static void layout() {
        Check.part("promise 14");
        row("laid()", Bonehall::laid, "0 0 0 1 2 0");
        Check.part("promise 15, exceptions");
        row("laidAt(0)", hall -> hall.laidAt(0), "N N N 4 4 N");
        row("laidAt(1)", hall -> hall.laidAt(1), "N N N N 1 N");
        row("laidAt(2)", hall -> hall.laidAt(2), "N N N N N N");
        row("laidAt(-1)", hall -> hall.laidAt(-1), "N N N N N N");
        Check.part("promise 16");
        row("ends()", Bonehall::ends, "0 0 0 2 2 0");
        Check.part("promise 17, exceptions");
        row("endAt(0)", hall -> hall.endAt(0), "B B B 1 1 B");
        row("endAt(1)", hall -> hall.endAt(1), "B B B 1 0 B");
        row("endAt(2)", hall -> hall.endAt(2), "B B B B B B");
        row("endAt(-1)", hall -> hall.endAt(-1), "B B B B B B");
        Check.part("promise 18");
        row("sum()", Bonehall::sum, "0 0 0 2 2 0");
        Check.part("promise 19, exceptions");
        row("fits(0, 1)", hall -> hall.fits(0, 1), "B B B false true B");
        row("fits(9, 0)", hall -> hall.fits(9, 0), "B B B false false B");
        row("fits(10, 0)", hall -> hall.fits(10, 0), "B B B B B B");
        row("fits(-1, 0)", hall -> hall.fits(-1, 0), "B B B B B B");
        row("fits(0, 2)", hall -> hall.fits(0, 2), "B B B B B B");
        row("fits(0, -1)", hall -> hall.fits(0, -1), "B B B B B B");
    }

    private static void moves() {
        Check.part("promise 13, exceptions");
        row("turn()", Bonehall::turn, "S S 0 1 S S");
        Check.part("promise 20, exceptions");
        row("canPlay(0)", hall -> hall.canPlay(0), "B S true true S B");
        row("canPlay(1)", hall -> hall.canPlay(1), "B S true false S B");
        row("canPlay(2)", hall -> hall.canPlay(2), "B B B B B B");
        row("canPlay(-1)", hall -> hall.canPlay(-1), "B B B B B B");
        Check.part("promise 21, exceptions");
        row("play(10, 0)", hall -> hall.play(10, 0), "B B B B B B");
        row("play(-1, 0)", hall -> hall.play(-1, 0), "B B B B B B");
        row("play(4, 0)", hall -> hall.play(4, 0), "B S 0 N S B");
        row("play(4, -1)", hall -> hall.play(4, -1), "B S 0 N S B");
        row("play(1, 2)", hall -> hall.play(1, 2), "B S 0 N S B");
        row("play(2, 0)", hall -> hall.play(2, 0), "B S N U S B");
        row("play(2, 2)", hall -> hall.play(2, 2), "B S N U S B");
        row("play(2, -1)", hall -> hall.play(2, -1), "B S N U S B");
        row("play(9, 0)", hall -> hall.play(9, 0), "B S N N S B");
        Check.part("promise 22, exceptions");
        row("draw()", Bonehall::draw, "S S U U S S");
        Check.part("promise 23, exceptions");
        row("pass()", Bonehall::pass, "S S U 0 S S");
        Check.part("promise 24, exceptions");
        row("isBlocked()", Bonehall::isBlocked, "S S U false S S");
        Check.part("promise 25, exceptions");
        row("winner()", Bonehall::winner, "N N N N 0 N");
        Check.part("promise 26, exceptions");
        row("points(0)", hall -> hall.points(0), "B 0 0 0 5 B");
        row("points(1)", hall -> hall.points(1), "B 0 0 0 0 B");
        row("points(2)", hall -> hall.points(2), "B B B B B B");
        row("points(-1)", hall -> hall.points(-1), "B B B B B B");
    }

    private static void knowledge() {
        Check.part("promise 27, exceptions");
        row("isVoid(0, 0)", hall -> hall.isVoid(0, 0), "B false false false false B");
        row("isVoid(1, 3)", hall -> hall.isVoid(1, 3), "B false false false false B");
        row("isVoid(1, 4)", hall -> hall.isVoid(1, 4), "B I I I I B");
        row("isVoid(1, -1)", hall -> hall.isVoid(1, -1), "B I I I I B");
        row("isVoid(2, 4)", hall -> hall.isVoid(2, 4), "B B B B B B");
        row("isVoid(-1, 0)", hall -> hall.isVoid(-1, 0), "B B B B B B");
        Check.part("promise 28");
        row("found()", Bonehall::found, "0 0 0 0 0 0");
        Check.part("promise 29, exceptions");
        row("deals(0)", hall -> hall.deals(0), "B S 28 28 S B");
        row("deals(1)", hall -> hall.deals(1), "B S 28 7 S B");
        row("deals(2)", hall -> hall.deals(2), "B B B B B B");
        row("deals(-1)", hall -> hall.deals(-1), "B B B B B B");
        Check.part("promise 30, exceptions");
        row("chance(0, 1, 2)", hall -> hall.chance(0, 1, 2), "B S 0.25 0.25 S B");
        row("chance(0, 1, 1)", hall -> hall.chance(0, 1, 1), "B S U U S B");
        row("chance(0, 1, 4)", hall -> hall.chance(0, 1, 4), "B S U U S B");
        row("chance(1, 0, 4)", hall -> hall.chance(1, 0, 4), "B S 0.25 U S B");
        row("chance(0, 0, 1)", hall -> hall.chance(0, 0, 1), "B I I I I B");
        row("chance(1, 1, 9)", hall -> hall.chance(1, 1, 9), "B I I I I B");
        row("chance(0, 0, 10)", hall -> hall.chance(0, 0, 10), "B B B B B B");
        row("chance(0, 1, -1)", hall -> hall.chance(0, 1, -1), "B B B B B B");
        row("chance(2, 0, 9)", hall -> hall.chance(2, 0, 9), "B B B B B B");
        row("chance(2, 2, 9)", hall -> hall.chance(2, 2, 9), "B B B B B B");
        row("chance(0, 2, 9)", hall -> hall.chance(0, 2, 9), "B B B B B B");
        row("chance(-1, 0, 9)", hall -> hall.chance(-1, 0, 9), "B B B B B B");
        row("chance(0, -1, 9)", hall -> hall.chance(0, -1, 9), "B B B B B B");
    }

    private static void endings() {
        Check.part("promise 31, exceptions");
        row("solve()", Bonehall::solve, "S S U -5 S S");
        Check.part("promise 32, exceptions");
        row("bestBone()", Bonehall::bestBone, "S S U -1 S S");
        Check.part("promise 33, exceptions");
        row("bestEnd()", Bonehall::bestEnd, "S S U -1 S S");
    }

    private static void typed() {
        Check.part("promise 34, exceptions");
        row("type(0)", hall -> hall.type(0), "B 1 1 1 1 B");
        row("type(9)", hall -> hall.type(9), "B 1 1 1 1 B");
        row("type(10)", hall -> hall.type(10), "B B B B B B");
        row("type(-1)", hall -> hall.type(-1), "B B B B B B");
        Check.part("promise 35");
        row("wipe()", Bonehall::wipe, "0 0 0 0 0 0");
        Check.part("promise 36");
        row("rows()", Bonehall::rows, "0 0 0 0 0 0");
        Check.part("promise 37");
        row("rings()", Bonehall::rings, "0 0 0 0 0 0");
        Check.part("promise 38, exceptions");
        row("trick(-1, 1, 2, 3, 0)", hall -> hall.trick(-1, 1, 2, 3, 0), "B 0 0 0 0 B");
        row("trick(0, 1, 2, 3, 0)", hall -> hall.trick(0, 1, 2, 3, 0), "B 3 3 3 3 B");
        row("trick(3, 1, 2, 3, 0)", hall -> hall.trick(3, 1, 2, 3, 0), "B 2 2 2 2 B");
        row("trick(4, 1, 2, 3, 0)", hall -> hall.trick(4, 1, 2, 3, 0), "B I I I I B");
        row("trick(-2, 1, 2, 3, 0)", hall -> hall.trick(-2, 1, 2, 3, 0), "B I I I I B");
        row("trick(0, 1, 2, 3, 3)", hall -> hall.trick(0, 1, 2, 3, 3), "B I I I I B");
        row("trick(4, 1, 1, 3, 10)", hall -> hall.trick(4, 1, 1, 3, 10), "B B B B B B");
        row("trick(4, -1, 1, 3, 1)", hall -> hall.trick(4, -1, 1, 3, 1), "B B B B B B");
    }

    private static void measures() {
        Check.part("promise 39");
        row("rounds()", Bonehall::rounds, "0 0 1 1 1 0");
        Check.part("promise 40, exceptions");
        row("laidShare()", Bonehall::laidShare, "A 0.0 0.0 0.1 0.2 A");
        Check.part("promise 41, exceptions");
        row("meanPips()", Bonehall::meanPips, "A A 4.0 3.0 2.5 A");
        Check.part("promise 43");
        row("isSound()", Bonehall::isSound, "true true true true true true");
    }
}
