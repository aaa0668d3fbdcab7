import java.util.Random;

/**
 * 'A method that throws an exception changes nothing': each run goes on two halls. The one is asked all that comes to
 * mind, the other one only what was not refused, and both answer alike to the end.
 */
public final class RefusedTest {
    private static final int RUNS = 1200;
    private static final int MOST_CALLS = 240;
    private static final int PLAY = 4;
    private static final int PASS = 6;

    private final Random random;
    private final Bonehall bold = new Bonehall();
    private final Bonehall careful = new Bonehall();
    private int refused = 0;
    private int taken = 0;

    private RefusedTest(long seed) {
        random = new Random(seed);
    }

    public static void main(String[] args) {
        int refused = 0;
        int taken = 0;
        for (int seed = 0; seed < RUNS; seed++) {
            Check.part("run " + seed);
            RefusedTest run = new RefusedTest(seed);
            run.play();
            refused += run.refused;
            taken += run.taken;
        }
        Check.due("many were taken", true, taken > RUNS * 20);
        Check.due("many were refused", true, refused > RUNS * 100);
        Check.end("RefusedTest");
    }

    private void play() {
        for (char letter : "psxdftcr".toCharArray()) {
            if (random.nextInt(3) == 0) {
                both(0, letter, 0);
            }
        }
        both(1, random.nextInt(3) + 1, 1 + random.nextInt(3));
        for (int call = 0; call < MOST_CALLS; call++) {
            int what = random.nextInt(32);
            both(what < 16 ? what : what < 26 ? PLAY : PASS, random.nextInt(58) - 1, random.nextInt(8) - 1);
        }
        Check.due("at the end", Scene.look(careful), Scene.look(bold));
    }

    private void both(int what, int one, int two) {
        Object got = ask(bold, what, one, two);
        if (got instanceof Class<?>) {
            refused++;
        } else {
            taken++;
            Check.due("call " + what + " of " + one + " and " + two, ask(careful, what, one, two), got);
            Check.due("checksum after it", careful.checksum(), bold.checksum());
        }
    }

    private static Object ask(Bonehall hall, int what, int one, int two) {
        try {
            return switch (what) {
                case 0 -> hall.rule((char) one, true);
                case 1 -> hall.begin(2 + one % 4, 1 + two, 2 + one % 5);
                case 2, 11, 12, 13 -> hall.deal(one * 7919);
                case 3 -> one == 7 ? hall.close() : hall.type(one % 12);
                case PLAY -> hall.play(hall.handAt(hall.turn(), one % 4), two % 4);
                case 14, 15 -> hall.play(one % 11, two % 4);
                case 5 -> hall.give(two, one % 20);
                case PASS -> one % 2 == 0 ? hall.pass() : hall.draw();
                case 7 -> hall.handAt(two, one % 5);
                case 8 -> hall.chance(two, one % 4, one);
                case 9 -> one % 3 == 0 ? hall.solve() : one % 3 == 1 ? hall.bestBone() : hall.bestEnd();
                default -> hall.trick(two, one % 10, 1, 2, 3);
            };
        } catch (RuntimeException e) {
            return e.getClass();
        }
    }
}
