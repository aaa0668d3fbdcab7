import java.util.Arrays;
import java.util.NoSuchElementException;

/** Makes halls with wanted hands: it looks for a seed, by a shuffle of its own, that deals them. */
final class Scene {
    private static final int MOST_SEEDS = 4_000_000;

    /** Seeds that lie side by side deal alike at first, so the search strides through all of them. */
    private static final int STRIDE = 0x9E3779B1;

    private Scene() {
    }

    /** A hall with the rules told, a match begun, and a round dealt in which the players have just these hands. */
    static Bonehall dealt(String rules, int highest, int[]... hands) {
        return dealtBy(seedFor(highest, hands), rules, highest, hands);
    }

    /** The same, where the seed is known already since looking for it takes long. */
    static Bonehall dealtBy(int seed, String rules, int highest, int[]... hands) {
        Bonehall hall = begun(rules, highest, hands.length, hands[0].length);
        hall.deal(seed);
        for (int player = 0; player < hands.length; player++) {
            for (int index = 0; index < hands[player].length; index++) {
                Check.due("hand " + player + " of the scene", hands[player][index], hall.handAt(player, index));
            }
        }
        return hall;
    }

    static Bonehall begun(String rules, int highest, int players, int hand) {
        Bonehall hall = new Bonehall();
        for (char letter : rules.toCharArray()) {
            hall.rule(letter, true);
        }
        hall.begin(highest, players, hand);
        return hall;
    }

    static int seedFor(int highest, int[]... hands) {
        return seedForYard(new int[0], highest, hands);
    }

    /** A seed that deals these hands, with these bones as the first ones of the boneyard. */
    static int seedForYard(int[] yard, int highest, int[]... hands) {
        int[] at = new int[(highest + 1) * (highest + 2) / 2];
        Arrays.fill(at, -1);
        for (int player = 0; player < hands.length; player++) {
            for (int bone : hands[player]) {
                at[bone] = player;
            }
        }
        int dealt = hands.length * hands[0].length;
        for (int times = 0; times < MOST_SEEDS; times++) {
            int seed = times * STRIDE;
            int[] row = shuffled(at.length, seed);
            boolean isIt = true;
            for (int place = 0; place < dealt && isIt; place++) {
                isIt = at[row[place]] == place / hands[0].length;
            }
            for (int place = 0; place < yard.length && isIt; place++) {
                isIt = row[dealt + place] == yard[place];
            }
            if (isIt) {
                return seed;
            }
        }
        throw new IllegalStateException("no seed deals this");
    }

    static int[] shuffled(int bones, int seed) {
        int[] row = new int[bones];
        for (int i = 0; i < bones; i++) {
            row[i] = i;
        }
        int z = seed;
        for (int place = bones - 1; place > 0; place--) {
            z = (int) (z * 1103515245L + 12345L);
            int other = (int) ((z & 0xffffffffL) / 65536 % (place + 1));
            int kept = row[other];
            row[other] = row[place];
            row[place] = kept;
        }
        return row;
    }

    /** Plays a bone, by the rule 'r' with a pass of each one whose turn it is before. */
    static int lay(Bonehall hall, int bone, int end) {
        for (int times = 0; times < 4 && !holds(hall, hall.turn(), bone); times++) {
            hall.pass();
        }
        return hall.play(bone, end);
    }

    static boolean holds(Bonehall hall, int player, int bone) {
        for (int index = 0; index < hall.inHand(player); index++) {
            if (hall.handAt(player, index) == bone) {
                return true;
            }
        }
        return false;
    }

    static boolean isGoing(Bonehall hall) {
        try {
            return hall.turn() >= 0;
        } catch (IllegalStateException e) {
            return false;
        }
    }

    /** Plays the lowest bone that fits, at the first end that it fits; false if there is none. */
    static boolean playLowest(Bonehall hall) {
        int player = hall.turn();
        boolean isFirst = hall.laid() == 0;
        if (!hall.canPlay(player)) {
            return false;
        }
        int held = hall.inHand(player);
        int ends = Math.max(1, hall.ends());
        for (int index = 0; index < held; index++) {
            int bone = hall.handAt(player, index);
            for (int end = 0; end < ends; end++) {
                if (isFirst || hall.fits(bone, end)) {
                    hall.play(bone, end);
                    return true;
                }
            }
        }
        return false;
    }

    /** Passes, or draws if that comes before; tells whether one of both could be done. */
    static boolean passOrDraw(Bonehall hall) {
        try {
            hall.pass();
            return true;
        } catch (UnsupportedOperationException e) {
            if (hall.canPlay(hall.turn())) {
                return false;
            }
            hall.draw();
            return true;
        }
    }

    /** Where each bone is: 0 and more the player, -1 the boneyard or the layout. */
    static int[] owners(Bonehall hall, int bones, int players) {
        int[] owners = new int[bones];
        Arrays.fill(owners, -1);
        for (int player = 0; player < players; player++) {
            for (int index = hall.inHand(player) - 1; index >= 0; index--) {
                owners[hall.handAt(player, index)] = player;
            }
        }
        return owners;
    }

    /** The values of the open ends, as digits. */
    static String ends(Bonehall hall) {
        StringBuilder text = new StringBuilder();
        for (int end = 0; end < hall.ends(); end++) {
            text.append(hall.endAt(end));
        }
        return text.toString();
    }

    /** Some twenty calls that tell nearly all of the state. */
    static String look(Bonehall hall) {
        StringBuilder text = new StringBuilder();
        text.append(hall.checksum()).append(' ').append(hall.yard()).append(' ').append(hall.laid()).append(' ');
        text.append(hall.ends()).append(' ').append(hall.sum()).append(' ').append(hall.found()).append(' ');
        text.append(hall.rounds()).append(' ').append(hall.rows()).append(' ').append(hall.rings()).append(' ');
        try {
            text.append("winner ").append(hall.winner()).append(' ');
        } catch (NoSuchElementException e) {
            text.append("no winner ");
        }
        try {
            text.append("turn ").append(hall.turn()).append(' ');
            for (int player = 0; player < 2; player++) {
                text.append(hall.deals(player)).append(' ');
            }
        } catch (IllegalStateException e) {
            text.append("no round ");
        }
        return text.append(hall.isSound()).toString();
    }
}
