import java.util.ArrayList;
import java.util.List;

/** The edges that the term What a pass tells and the promises 27 to 30 name, a sentence a test. */
public final class KnowledgeEdgeTest implements Refusals {
    /** The bit of each value of the bones 00 01 02 03 11 12 13 22 23 33. */
    private static final int[] VALUES = {1, 3, 5, 9, 2, 6, 10, 4, 12, 8};

    public static void main(String[] args) {
        knownByAPass();
        knownOfThen();
        knownTogether();
        nothingLaid();
        noSuchValue();
        drawForgetsOne();
        drawnAndPlayed();
        knownInOneRound();
        foundOfEachPlayer();
        foundByEitherHalf();
        allIsForgotten();
        foundByTheLastBone();
        foundInTheMatch();
        dealsAtFirst();
        dealsOfAMatchWithFewer();
        dealsOfFour();
        justOneDeal();
        dealsThatAreCounted();
        wrappedShare();
        refusedShare();
        Check.end("KnowledgeEdgeTest");
    }

    private static void dueVoids(Bonehall hall, int player, String values) {
        for (int value = 0; value <= 3; value++) {
            Check.due("value " + value + " of " + player, values.indexOf('0' + value) >= 0, hall.isVoid(player, value));
        }
    }

    private static void knownByAPass() {
        Check.part("promise 27: 'not to have any of the values of the open ends of then'");
        for (String rules : new String[] {"r", "rx"}) {
            Bonehall plain = Scene.dealt(rules, 3, new int[] {6, 8}, new int[] {0, 2});
            Scene.lay(plain, 6, 0);
            plain.pass();
            dueVoids(plain, 1, "13");
            dueVoids(plain, 0, "");
            Bonehall alike = Scene.dealt(rules, 3, new int[] {6, 9}, new int[] {0, 2});
            alike.play(9, 0);
            alike.pass();
            dueVoids(alike, 1, "3");
            dueVoids(alike, 0, "");
        }
        Bonehall nought = Scene.dealt("r", 3, new int[] {0, 2}, new int[] {4, 5});
        Scene.lay(nought, 0, 0);
        nought.pass();
        dueVoids(nought, 1, "0");
        Bonehall highest = Scene.begun("r", 9, 2, 9);
        int player = highest.deal(3);
        highest.play(highest.handAt(player, 8), 0);
        int value = highest.endAt(1);
        highest.pass();
        Check.due("value " + value, true, highest.isVoid(1 - player, value));
        Check.due("its own", false, highest.isVoid(player, value));
    }

    private static void knownOfThen() {
        Check.part("promise 27: 'of then', what comes later is not known");
        Bonehall hall = Scene.dealt("r", 3, new int[] {1, 4, 6}, new int[] {2, 3, 8});
        hall.play(4, 0);
        hall.pass();
        hall.play(1, 0);
        Check.due("ends", "10", Scene.ends(hall));
        dueVoids(hall, 1, "1");
    }

    private static void knownTogether() {
        Check.part("promise 27: two passes tell more than one");
        Bonehall hall = Scene.dealt("r", 3, new int[] {1, 4, 6, 9}, new int[] {2, 3, 7, 8});
        hall.play(4, 0);
        hall.pass();
        hall.play(1, 0);
        hall.play(2, 1);
        Check.due("ends", "12", Scene.ends(hall));
        hall.play(6, 0);
        Check.due("ends", "23", Scene.ends(hall));
        hall.pass();
        dueVoids(hall, 1, "123");
        dueVoids(hall, 0, "");
    }

    private static void nothingLaid() {
        Check.part("promise 27: a pass with nothing laid tells nothing");
        Bonehall hall = Scene.dealt("r", 3, new int[] {1, 4}, new int[] {2, 3}, new int[] {5, 6});
        hall.pass();
        hall.pass();
        for (int player = 0; player < 3; player++) {
            dueVoids(hall, player, "");
        }
        Check.due("sound", true, hall.isSound());
        Check.due("deals", 420L, hall.deals(0));
    }

    private static void noSuchValue() {
        Check.part("promise 27: 'if there is no such value'");
        for (int highest = 3; highest <= 9; highest++) {
            int top = highest;
            Bonehall hall = Scene.begun("", highest, 2, 2);
            hall.deal(1);
            Check.due("the lowest", false, hall.isVoid(0, 0));
            Check.due("the highest", false, hall.isVoid(1, top));
            Check.refuses("one more", ILLEGAL, hall, () -> hall.isVoid(0, top + 1));
            Check.refuses("one less", ILLEGAL, hall, () -> hall.isVoid(0, -1));
            Check.refuses("32, which is 0 as a shift", ILLEGAL, hall, () -> hall.isVoid(0, 32));
            Check.refuses("the least int", ILLEGAL, hall, () -> hall.isVoid(0, Integer.MIN_VALUE));
            Check.refuses("no player, no value", BOUNDS, hall, () -> hall.isVoid(2, top + 1));
        }
    }

    /**
     * Bones of a set to four: 11 13 33 34 44 with the other one, 02 03 04 22 23 with the drawer. The other one passes
     * falsely at 4 0, the drawer at 4 3, and then has to draw at 4 1.
     */
    private static void drawForgetsOne() {
        int[] others = {5, 7, 12, 13, 14};
        int[] own = {2, 3, 4, 9, 10};
        for (int drawer = 0; drawer < 2; drawer++) {
            Check.part("promise 27: 'a draw of that player makes all that is known .. so forgotten', " + drawer);
            Bonehall hall = Scene.dealt("dr", 4, drawer == 0 ? own : others, drawer == 0 ? others : own);
            hall.play(14, 0);
            hall.play(4, 0);
            hall.pass();
            hall.play(3, 1);
            hall.play(12, 1);
            Check.due("ends", "43", Scene.ends(hall));
            hall.pass();
            dueVoids(hall, drawer, "3");
            Check.due("4 of the drawer", true, hall.isVoid(drawer, 4));
            hall.play(7, 1);
            Check.due("turn", drawer, hall.turn());
            dueVoids(hall, drawer, "3");
            hall.draw();
            dueVoids(hall, drawer, "");
            Check.due("4 of the drawer", false, hall.isVoid(drawer, 4));
            Check.part("promise 27: 'of that player', what is known of the other one stays, " + drawer);
            dueVoids(hall, 1 - drawer, "0");
            Check.due("4 of the other one", true, hall.isVoid(1 - drawer, 4));
            Check.due("nothing is found", 0, hall.found());
            Check.due("sound", true, hall.isSound());
        }
    }

    private static void drawnAndPlayed() {
        Check.part("promise 28: what is forgotten by a draw is not found");
        Bonehall hall = Scene.begun("dr", 4, 2, 4);
        hall.deal(Scene.seedForYard(new int[] {6}, 4, new int[] {8, 11, 13, 14}, new int[] {0, 3, 4, 12}));
        hall.play(14, 0);
        hall.pass();
        hall.play(8, 0);
        hall.pass();
        Check.due("1 is known", true, hall.isVoid(1, 1));
        hall.play(11, 0);
        Check.due("12 is drawn", 6, hall.draw());
        hall.play(6, 0);
        Check.due("nothing is found", 0, hall.found());
        Check.due("no points", 0, hall.points(0) + hall.points(1));
    }

    private static void knownInOneRound() {
        Check.part("promise 27: what is known is of the round");
        Bonehall hall = Scene.dealt("r", 3, new int[] {6, 8}, new int[] {0, 2});
        Scene.lay(hall, 6, 0);
        hall.pass();
        dueVoids(hall, 1, "13");
        hall.pass();
        hall.deal(3);
        dueVoids(hall, 0, "");
        dueVoids(hall, 1, "");
        hall.close();
        hall.begin(3, 2, 2);
        dueVoids(hall, 1, "");
    }

    /** The one before lays 33, who is meant passes by 03, the next one lays 13, and then 03 is laid. */
    private static void foundOfEachPlayer() {
        for (int players = 3; players <= 4; players++) {
            for (int meant = 0; meant < players; meant++) {
                int[][] hands = new int[players][];
                hands[(meant + players - 1) % players] = new int[] {8, 9};
                hands[meant] = new int[] {0, 3};
                hands[(meant + 1) % players] = new int[] {4, 6};
                if (players == 4) {
                    hands[(meant + 2) % players] = new int[] {1, 2};
                }
                falsePassOf(meant, "r", hands);
                if (players == 4) {
                    falsePassOf(meant, "pr", hands);
                }
            }
        }
    }

    private static void falsePassOf(int meant, String rules, int[][] hands) {
        String whose = meant + " of " + hands.length + rules;
        Check.part("promise 28: 'the false pass is found: each other side gets 20', " + whose);
        Bonehall hall = Scene.dealt(rules, 3, hands);
        hall.play(9, 0);
        hall.pass();
        dueVoids(hall, meant, "3");
        hall.play(6, 0);
        Check.due("nothing is found yet", 0, hall.found());
        Check.due("no points by the own play", 0, Scene.lay(hall, 3, 0));
        Check.due("found", 1, hall.found());
        int sides = rules.contains("p") ? 2 : hands.length;
        for (int side = 0; side < sides; side++) {
            Check.due("side " + side, side == meant % sides ? 0 : 20, hall.points(side));
        }
        dueVoids(hall, meant, "");
        Check.due("sound", true, hall.isSound());
    }

    private static void foundByEitherHalf() {
        Check.part("promise 28: 'plays a bone with a value that is known not to be there', by either half");
        Bonehall greater = Scene.dealt("r", 3, new int[] {7, 8, 9}, new int[] {0, 3, 5});
        greater.play(9, 0);
        greater.pass();
        greater.play(8, 0);
        Check.due("03 at the 3", 0, greater.play(3, 0));
        Check.due("found", 1, greater.found());
        Bonehall lesser = Scene.dealt("r", 3, new int[] {1, 4, 6}, new int[] {2, 5, 8});
        lesser.play(4, 0);
        lesser.pass();
        lesser.play(6, 0);
        Check.due("12 at the 1", 0, lesser.play(5, 0));
        Check.due("found", 1, lesser.found());
        Bonehall other = Scene.dealt("r", 3, new int[] {1, 4, 6}, new int[] {2, 5, 8});
        other.play(4, 0);
        other.pass();
        other.play(1, 0);
        other.play(2, 1);
        Check.due("02 has none of it", 0, other.found());
        other.pass();
        Check.due("12 at the 2, its other half is the 1", 0, other.play(5, 1));
        Check.due("found", 1, other.found());
        Bonehall isDouble = Scene.dealt("r", 3, new int[] {2, 8, 9}, new int[] {0, 4, 5});
        isDouble.play(2, 0);
        isDouble.pass();
        isDouble.play(8, 1);
        Check.due("00 at the 0", 0, isDouble.play(0, 0));
        Check.due("found once", 1, isDouble.found());
        Check.due("20 for the other", 20, isDouble.points(0));
    }

    private static void allIsForgotten() {
        Check.part("promise 28: 'and what was known of the player is forgotten', of both values, but of no other one");
        Bonehall two = Scene.dealt("r", 3, new int[] {1, 4, 6}, new int[] {2, 5, 8});
        two.play(6, 0);
        two.pass();
        dueVoids(two, 1, "13");
        two.play(1, 0);
        Check.due("ends", "30", Scene.ends(two));
        two.play(8, 0);
        Check.due("23 has the 3", 1, two.found());
        dueVoids(two, 1, "");
        two.pass();
        dueVoids(two, 0, "02");
        two.play(5, 1);
        Check.due("12 has the 1, which is forgotten", 1, two.found());
        Check.due("20 once", 20, two.points(0));
        dueVoids(two, 0, "02");
    }

    private static void foundByTheLastBone() {
        Check.part("promises 21 and 28: found by the last bone, which wins nonetheless");
        Bonehall hall = Scene.dealt("r", 3, new int[] {2, 8}, new int[] {3, 9}, new int[] {4, 7});
        hall.play(9, 0);
        hall.pass();
        hall.play(8, 0);
        hall.pass();
        hall.play(7, 1);
        hall.pass();
        Check.due("nothing is found yet", 0, hall.found());
        Check.due("02 and 11 are left", 4, hall.play(3, 0));
        Check.due("found", 1, hall.found());
        Check.due("winner", 1, hall.winner());
        Check.due("20 for 0", 20, hall.points(0));
        Check.due("the pips for 1", 4, hall.points(1));
        Check.due("20 for 2", 20, hall.points(2));
    }

    private static void foundInTheMatch() {
        Check.part("promise 28: 'in the match'");
        Bonehall hall = Scene.begun("r", 3, 2, 3);
        for (int round = 1; round <= 3; round++) {
            int first = hall.deal(Scene.seedFor(3, new int[] {0, 3, 5}, new int[] {7, 8, 9}));
            if (first == 0) {
                hall.pass();
            }
            hall.play(9, 0);
            hall.pass();
            hall.play(8, 0);
            hall.play(3, 0);
            Check.due("found", round, hall.found());
            hall.pass();
            hall.pass();
        }
        Check.due("20 by each", 60, hall.points(1));
        hall.close();
        Check.due("no match", 0, hall.found());
        hall.begin(3, 2, 2);
        Check.due("the next match", 0, hall.found());
    }

    private static void dealsAtFirst() {
        Check.part("promise 29: 'as many in each as there are'");
        long[][] dues = {{3, 2, 2, 28}, {3, 2, 4, 15}, {3, 3, 2, 420}, {3, 3, 3, 140}, {3, 4, 2, 2520}, {4, 2, 5, 252},
            {9, 2, 9, 1101716330L}};
        for (long[] four : dues) {
            Bonehall hall = Scene.begun("", (int) four[0], (int) four[1], (int) four[2]);
            hall.deal(11);
            for (int player = 0; player < four[1]; player++) {
                Check.due("deals of " + four[1] + " with " + four[2], four[3], hall.deals(player));
            }
        }
    }

    private static void dealsOfAMatchWithFewer() {
        Check.part("promise 29: those who were in an earlier match have no hands in this one");
        Bonehall hall = Scene.begun("", 3, 4, 2);
        hall.deal(11);
        Check.due("of four", 2520L, hall.deals(0));
        hall.close();
        hall.begin(3, 3, 2);
        hall.deal(11);
        Check.due("of three", 420L, hall.deals(0));
        hall.close();
        hall.begin(3, 2, 2);
        hall.deal(11);
        Check.due("of two", 28L, hall.deals(0));
        Check.due("one of four", 0.25, hall.chance(0, 1, hall.handAt(1, 0)));
    }

    /** 01 33, 02 12, 11 22 and 00 23; 03 and 13 are in the boneyard; 33 is laid, and 1 and 2 pass. */
    private static void dealsOfFour() {
        Check.part("promise 29: 'so that nobody has a value that is known not to be there', four players");
        Bonehall hall = Scene.dealt("", 3, new int[] {1, 9}, new int[] {2, 5}, new int[] {4, 7}, new int[] {0, 8});
        hall.play(9, 0);
        hall.pass();
        hall.pass();
        Check.due("10 times 3 times 6", 180L, hall.deals(0));
        Check.due("6 times 5 times 6", 180L, hall.deals(1));
        Check.due("6 times 5 times 6", 180L, hall.deals(2));
        Check.due("10 times 3 times 3", 90L, hall.deals(3));
        Check.part("promise 30: 'in which share of these deals another player has a bone'");
        Check.due("23 is with 3 or in the boneyard", 0.5, hall.chance(0, 3, 8));
        Check.due("4 times 3 times 6 of 180", 0.4, hall.chance(0, 1, 0));
        Check.due("23 has a 3", 0.0, hall.chance(0, 1, 8));
        Check.due("23 has a 3", 0.0, hall.chance(0, 2, 8));
        Check.due("03 with 0 is one of three", 1.0 / 3.0, hall.chance(3, 0, 3));
    }

    private static void justOneDeal() {
        Check.part("promises 29 and 30: one deal, no boneyard");
        int[][] hands = {{0, 1, 2, 3, 9}, {4, 5, 6, 7, 8}};
        Bonehall hall = Scene.dealt("", 3, hands);
        for (int player = 0; player < 2; player++) {
            Check.due("one", 1L, hall.deals(player));
            for (int bone : hands[1 - player]) {
                Check.due("each of the other's", 1.0, hall.chance(player, 1 - player, bone));
            }
        }
        hall.play(1, 0);
        Check.due("one still", 1L, hall.deals(1));
        Check.due("33 with 0", 1.0, hall.chance(1, 0, 9));
    }

    /** Rounds with false passes and plays, in which the deals are counted one by one. */
    private static void dealsThatAreCounted() {
        Check.part("promises 29 and 30: counted one by one");
        int restricted = 0;
        for (int seed = 0; seed < 120; seed++) {
            int players = 2 + seed % 3;
            Bonehall hall = Scene.begun(seed % 2 == 0 ? "r" : "dr", 3, players, players == 4 ? 2 : 3);
            hall.deal(seed * 7919);
            for (int step = 0; step < 3 + seed % 7 && Scene.isGoing(hall); step++) {
                step(hall, seed + step);
            }
            if (Scene.isGoing(hall)) {
                Seen seen = new Seen(hall, players);
                for (int player = 0; player < players; player++) {
                    restricted += compareDeals(hall, seen, player);
                }
            }
        }
        Check.due("some are restricted", true, restricted > 50);
    }

    private static void step(Bonehall hall, int dice) {
        if (dice % 3 == 0 || !Scene.playLowest(hall)) {
            Scene.passOrDraw(hall);
        }
    }

    /** 1 if what is known bars some deal. */
    private static int compareDeals(Bonehall hall, Seen seen, int eye) {
        long[][] held = new long[seen.players][10];
        long free = seen.count(eye, null);
        long all = seen.count(eye, held);
        Check.due("deals", all, hall.deals(eye));
        for (int other = 0; other < seen.players; other++) {
            for (int bone : seen.unseenBy(eye)) {
                if (other != eye && all > 0) {
                    Check.due("chance", (double) held[other][bone] / all, hall.chance(eye, other, bone));
                }
            }
        }
        return free == all ? 0 : 1;
    }

    /** What can be asked of a round in a set to three, read once. */
    private static final class Seen {
        final int players;
        private final int[] owners;
        private final int[] rooms;
        private final int[] voids;
        private final boolean[] laid = new boolean[10];

        Seen(Bonehall hall, int players) {
            this.players = players;
            owners = Scene.owners(hall, 10, players);
            rooms = new int[players + 1];
            voids = new int[players + 1];
            for (int index = 0; index < hall.laid(); index++) {
                laid[hall.laidAt(index)] = true;
            }
            rooms[players] = hall.yard();
            for (int player = 0; player < players; player++) {
                rooms[player] = hall.inHand(player);
                for (int value = 0; value <= 3; value++) {
                    voids[player] |= hall.isVoid(player, value) ? 1 << value : 0;
                }
            }
        }

        List<Integer> unseenBy(int eye) {
            List<Integer> unseen = new ArrayList<>();
            for (int bone = 0; bone < 10; bone++) {
                if (!laid[bone] && owners[bone] != eye) {
                    unseen.add(bone);
                }
            }
            return unseen;
        }

        /** All deals one by one; with a table, those alone that what is known allows, and who holds what in them. */
        long count(int eye, long[][] held) {
            int[] room = rooms.clone();
            room[eye] = 0;
            return count(unseenBy(eye), 0, room, new int[10], held);
        }

        private long count(List<Integer> unseen, int from, int[] room, int[] at, long[][] held) {
            if (from == unseen.size()) {
                for (int bone : unseen) {
                    if (held != null && at[bone] < players) {
                        held[at[bone]][bone]++;
                    }
                }
                return 1;
            }
            int bone = unseen.get(from);
            long ways = 0;
            for (int place = 0; place < room.length; place++) {
                if (room[place] > 0 && (held == null || (voids[place] & VALUES[bone]) == 0)) {
                    room[place]--;
                    at[bone] = place;
                    ways += count(unseen, from + 1, room, at, held);
                    room[place]++;
                }
            }
            return ways;
        }
    }

    /** 45 over 8, by 46 over 9, each times 37 over 9 and 28 over 9, all of it modulo 2 to the power of 64. */
    private static void wrappedShare() {
        Bonehall hall = Scene.begun("", 9, 4, 9);
        hall.deal(77);
        Check.part("promise 29: 'They are counted as longs that wrap'");
        for (int player = 0; player < 4; player++) {
            Check.due("wrapped", -7567937646739089888L, hall.deals(player));
        }
        Check.part("promise 30: 'divided by how many there are, both converted to double'");
        int bone = Scene.holds(hall, 1, 0) ? 1 : 0;
        int eye = Scene.holds(hall, 2, bone) ? 3 : 2;
        Check.due("wrapped", (double) 7341672408716485360L / (double) -7567937646739089888L, hall.chance(eye, 1, bone));
    }

    /** The player 1 passes falsely at 0 1, so that 22 and 23 alone are left for its three bones. */
    private static void refusedShare() {
        Check.part("promise 30: the exceptions in their order");
        Bonehall hall = Scene.dealt("r", 3, new int[] {1, 5, 9}, new int[] {0, 2, 7});
        hall.play(1, 0);
        hall.pass();
        Check.due("no deal", 0L, hall.deals(0));
        Check.refuses("'if there are none'", ARITHMETIC, hall, () -> hall.chance(0, 1, 3));
        Check.refuses("none, and it is laid", UNSUPPORTED, hall, () -> hall.chance(0, 1, 1));
        Check.refuses("none, and it is the own one", UNSUPPORTED, hall, () -> hall.chance(0, 1, 5));
        Check.refuses("the same, laid", ILLEGAL, hall, () -> hall.chance(0, 0, 1));
        Check.refuses("no bone, the same", BOUNDS, hall, () -> hall.chance(0, 0, 10));
        Check.due("by the other eye there are 15", 1.0 / 3.0, hall.chance(1, 0, 9));
        hall.pass();
        Check.refuses("no round, and it is laid", STATE, hall, () -> hall.chance(0, 1, 1));
        Check.refuses("the same, no round", ILLEGAL, hall, () -> hall.chance(1, 1, 1));
    }
}
