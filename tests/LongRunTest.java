import com.sun.management.ThreadMXBean;
import java.lang.management.ManagementFactory;

/** Runs of 512 calls, the most that an object is used for, of the dearest kinds; they end, and make little. */
public final class LongRunTest {
    private static final int CALLS = 512;

    /** The room of a run is 7.3 million fields and elements, of up to eight bytes each. */
    private static final long MOST_BYTES = 58_000_000;

    private static final ThreadMXBean THREADS = (ThreadMXBean) ManagementFactory.getThreadMXBean();

    public static void main(String[] args) {
        dealsOfFour();
        dealsOfFullHands();
        endings();
        rowsOfNine();
        refusals();
        Check.end("LongRunTest");
    }

    private static long made() {
        return THREADS.getThreadAllocatedBytes(Thread.currentThread().getId());
    }

    private static void dueLittle(long before) {
        long bytes = made() - before;
        Check.due(bytes + " bytes made are few", true, bytes < MOST_BYTES);
    }

    private static void dealsOfFour() {
        Check.part("512 calls: deals and chances of four with nine each");
        long before = made();
        Bonehall hall = Scene.begun("r", 9, 4, 9);
        hall.deal(77);
        hall.play(hall.handAt(hall.turn(), 8), 0);
        hall.pass();
        hall.pass();
        hall.pass();
        int eye = hall.turn();
        int unseen = 0;
        while (hall.laidAt(0) == unseen || Scene.holds(hall, eye, unseen)) {
            unseen++;
        }
        double first = hall.chance(eye, (eye + 1) % 4, unseen);
        for (int call = 60; call < CALLS; call++) {
            Check.due("the same share", first, hall.chance(eye, (eye + 1) % 4, unseen));
        }
        dueLittle(before);
    }

    /** By this seed those who cannot play draw all but two of the boneyard. */
    private static void dealsOfFullHands() {
        Check.part("512 calls: deals of full hands");
        long before = made();
        Bonehall hall = Scene.begun("dr", 9, 4, 9);
        hall.deal(12630805);
        for (int times = 0; times < 45 && hall.yard() > 2; times++) {
            if (!Scene.playLowest(hall)) {
                Scene.passOrDraw(hall);
            }
        }
        Check.due("two are left", 2, hall.yard());
        Check.due("a hand is full", 19, hall.inHand(3));
        int eye = hall.turn();
        long first = hall.deals(eye);
        for (int call = 400; call < CALLS; call++) {
            Check.due("the same number", first, hall.deals(eye));
        }
        dueLittle(before);
    }

    private static void endings() {
        Check.part("512 calls: endings of eight");
        long before = made();
        Bonehall hall = Scene.dealt("", 3, new int[] {0, 1, 2, 3, 9}, new int[] {4, 5, 6, 7, 8});
        hall.play(1, 0);
        hall.play(4, 1);
        int first = hall.solve();
        for (int call = 20; call < CALLS; call++) {
            Check.due("the same value", first, hall.solve());
        }
        dueLittle(before);
    }

    private static void rowsOfNine() {
        Check.part("512 calls: rows of nine bones");
        long before = made();
        Bonehall hall = Scene.begun("", 3, 2, 2);
        for (int bone = 0; bone < 9; bone++) {
            hall.type(bone);
        }
        int first = hall.rows();
        for (int call = 11; call < CALLS; call++) {
            Check.due("the same number", first, hall.rows());
        }
        dueLittle(before);
    }

    private static void refusals() {
        Check.part("512 calls: all but the last one refused");
        Bonehall hall = new Bonehall();
        int refused = 0;
        for (int call = 1; call < CALLS; call++) {
            try {
                hall.deal(call);
            } catch (IllegalStateException e) {
                refused++;
            }
        }
        Check.due("each one", CALLS - 1, refused);
        Check.due("and a match can be begun", 10, hall.begin(3, 2, 2));
    }
}
