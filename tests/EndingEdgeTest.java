import java.util.ArrayList;
import java.util.List;

/** The edges that the term Endings and the promises 31 to 33 name, a sentence a test. */
public final class EndingEdgeTest implements Refusals {
    public static void main(String[] args) {
        eachAskedFirst();
        twoSides();
        noneOfTheRules();
        somethingLaid();
        atMostEight();
        atMostEightOfPartners();
        belowNought();
        lowestBone();
        lowestEnd();
        noneToBePlayed();
        lowerBoneFirstOfTwo();
        solvedByPlaying();
        Check.end("EndingEdgeTest");
    }

    private static void refuse(String why, Class<? extends RuntimeException> want, Bonehall hall) {
        Check.refuses("solve, " + why, want, hall, hall::solve);
        Check.refuses("bestBone, " + why, want, hall, hall::bestBone);
        Check.refuses("bestEnd, " + why, want, hall, hall::bestEnd);
    }

    private static void due(Bonehall hall, int value, int bone, int end) {
        Check.due("solve", value, hall.solve());
        Check.due("bestBone", bone, hall.bestBone());
        Check.due("bestEnd", end, hall.bestEnd());
    }

    /** After 13: 03 at the 3 leaves 23 without a play, so that 12 wins 5; 12 at first lets 23 win 3. */
    private static Bonehall choice() {
        Bonehall hall = Scene.dealt("", 3, new int[] {6, 8}, new int[] {3, 5});
        hall.play(6, 0);
        return hall;
    }

    private static void eachAskedFirst() {
        Check.part("promise 31, of a hall that was asked nothing before");
        Check.due("solve", 5, choice().solve());
        Check.part("promise 32, of a hall that was asked nothing before");
        Check.due("bestBone", 3, choice().bestBone());
        Check.part("promise 33, of a hall that was asked nothing before");
        Check.due("bestEnd", 1, choice().bestEnd());
        Check.part("promises 31 to 33, after another ending");
        Bonehall hall = choice();
        due(hall, 5, 3, 1);
        hall.play(5, 0);
        Check.due("bestBone", 8, hall.bestBone());
        hall.play(8, 0);
        hall.close();
        hall.begin(3, 2, 2);
        hall.deal(Scene.seedFor(3, new int[] {1, 4}, new int[] {2, 3}));
        hall.play(4, 0);
        hall.pass();
        Check.due("bestEnd", 0, hall.bestEnd());
        Check.due("solve", 5, hall.solve());
    }

    private static void twoSides() {
        Check.part("promises 31 to 33: 'If there are two sides'");
        int[][] hands = {{1, 9}, {2, 5}, {4, 7}, {0, 8}};
        Bonehall four = Scene.dealt("", 3, hands);
        four.play(9, 0);
        refuse("four sides", UNSUPPORTED, four);
        Bonehall three = Scene.dealt("", 3, new int[] {1, 9}, new int[] {2, 5}, new int[] {4, 7});
        three.play(9, 0);
        refuse("three sides", UNSUPPORTED, three);
        Bonehall partners = Scene.dealt("p", 3, hands);
        partners.play(9, 0);
        due(partners, new Replay("p", 3, hands).then(9, 0).value(), -1, -1);
        Check.due("two players", 5, choice().solve());
    }

    private static void noneOfTheRules() {
        for (char letter : "sxdftcr".toCharArray()) {
            Check.part("promises 31 to 33: 'none of the rules .. holds', rule " + letter);
            Bonehall hall = Scene.dealt("" + letter, 3, new int[] {6, 8}, new int[] {3, 5});
            hall.play(6, 0);
            refuse("rule " + letter, UNSUPPORTED, hall);
            hall.close();
            hall.rule(letter, false);
            hall.begin(3, 2, 2);
            hall.deal(Scene.seedFor(3, new int[] {6, 8}, new int[] {3, 5}));
            hall.play(6, 0);
            Check.due("solve without it", 5, hall.solve());
        }
    }

    private static void somethingLaid() {
        Check.part("promises 31 to 33: 'something is laid'");
        Bonehall hall = Scene.begun("", 3, 2, 2);
        refuse("before a round", STATE, hall);
        hall.deal(Scene.seedFor(3, new int[] {6, 8}, new int[] {3, 5}));
        refuse("nothing is laid", UNSUPPORTED, hall);
        hall.play(6, 0);
        Check.due("one bone is laid", 5, hall.solve());
        hall.play(3, 1);
        hall.pass();
        hall.play(5, 0);
        refuse("after the round, though two sides have something laid", STATE, hall);
    }

    private static void atMostEight() {
        Check.part("promises 31 to 33: 'at most 8 bones are in hands'");
        int[][] hands = {{0, 1, 2, 3, 9}, {4, 5, 6, 7, 8}};
        Bonehall hall = Scene.dealt("", 3, hands);
        hall.play(2, 0);
        Check.due("nine", 9, hall.inHand(0) + hall.inHand(1));
        refuse("nine are in hands", UNSUPPORTED, hall);
        hall.play(5, 1);
        Check.due("eight", 8, hall.inHand(0) + hall.inHand(1));
        Replay replay = new Replay("", 3, hands).then(2, 0).then(5, 1);
        due(hall, replay.value(), replay.bestBone(), replay.bestEnd());
        Bonehall drawn = Scene.begun("", 9, 2, 5);
        drawn.deal(3);
        drawn.play(drawn.handAt(drawn.turn(), 0), 0);
        Check.due("nine of fifty-five", 9, drawn.inHand(0) + drawn.inHand(1));
        refuse("nine are in hands, the boneyard does not count", UNSUPPORTED, drawn);
        Bonehall few = Scene.begun("", 9, 2, 4);
        few.deal(3);
        few.play(few.handAt(few.turn(), 0), 0);
        Check.due("seven of fifty-five", few.bestBone() < 0, few.bestEnd() < 0);
    }

    /** Four partners with three bones each have nine left as three are laid, and then eight. */
    private static void atMostEightOfPartners() {
        Check.part("promises 31 to 33: 'at most 8 bones are in hands', of four partners");
        Bonehall hall = Scene.begun("p", 6, 4, 3);
        hall.deal(1);
        boolean isSolved = false;
        for (int step = 0; step < 40 && !isSolved; step++) {
            int held = hall.inHand(0) + hall.inHand(1) + hall.inHand(2) + hall.inHand(3);
            if (hall.laid() > 0 && held > 8) {
                refuse(held + " are in hands", UNSUPPORTED, hall);
            } else if (hall.laid() > 0) {
                Check.due("eight", 8, held);
                Check.due("it is solved", hall.bestBone() < 0, !hall.canPlay(hall.turn()));
                isSolved = true;
            }
            if (!Scene.playLowest(hall)) {
                hall.pass();
            }
        }
        Check.due("eight were reached", true, isSolved);
    }

    private static void belowNought() {
        Check.part("promise 31: 'what the side whose turn it is gets, or, below 0, what the other one gets'");
        Bonehall hall = Scene.dealt("", 3, new int[] {1, 4}, new int[] {2, 3});
        hall.play(4, 0);
        Check.due("by the eye of 1", -5, hall.solve());
        hall.pass();
        Check.due("by the eye of 0", 5, hall.solve());
        Bonehall turned = Scene.dealt("", 3, new int[] {2, 3}, new int[] {1, 4});
        turned.play(4, 0);
        Check.due("by the eye of 0", -5, turned.solve());
        turned.pass();
        Check.due("by the eye of 1", 5, turned.solve());
        Check.part("promise 31: nobody gets anything");
        Bonehall even = Scene.dealt("", 3, new int[] {1, 5}, new int[] {7, 9});
        even.play(9, 0);
        due(even, 0, -1, -1);
        even.pass();
        due(even, 0, -1, -1);
        Check.part("promise 31: 'less its own', a block");
        Bonehall block = Scene.dealt("", 3, new int[] {0, 1}, new int[] {7, 9});
        block.play(9, 0);
        due(block, 3, -1, -1);
        block.pass();
        due(block, -3, -1, -1);
    }

    /** 34 35 45 of the other one fit nowhere, so that 01 and 12 win 24 by each way to lay them. */
    private static void lowestBone() {
        Check.part("promise 32: 'with the lowest bone'");
        Bonehall hall = Scene.dealt("", 5, new int[] {1, 6, 7}, new int[] {16, 17, 19});
        hall.play(6, 0);
        hall.pass();
        due(hall, 24, 1, 0);
        Check.part("promise 33: 'then the lowest end', 12 at 1 0");
        hall.play(1, 1);
        hall.pass();
        due(hall, 24, 7, 0);
        Check.part("promise 33: 'then the lowest end', 01 at 1 1");
        Bonehall alike = Scene.dealt("", 3, new int[] {1, 4}, new int[] {2, 3});
        alike.play(4, 0);
        alike.pass();
        due(alike, 5, 1, 0);
    }

    private static void lowestEnd() {
        Check.part("promise 33: 'then the lowest end', unless the other one is better");
        Bonehall lower = Scene.dealt("", 3, new int[] {4, 6}, new int[] {5, 8});
        lower.play(6, 0);
        due(lower, 2, 5, 0);
        Bonehall higher = Scene.dealt("", 3, new int[] {0, 1, 3}, new int[] {5, 6, 8});
        higher.play(1, 0);
        higher.play(6, 1);
        due(higher, 8, 3, 1);
    }

    private static void noneToBePlayed() {
        Check.part("promises 32 and 33: 'no play if there is none that can be'");
        Bonehall hall = Scene.dealt("", 3, new int[] {1, 4}, new int[] {2, 3});
        hall.play(4, 0);
        Check.due("bestBone", -1, hall.bestBone());
        Check.due("bestEnd", -1, hall.bestEnd());
        Check.due("the value is there all the same", -5, hall.solve());
    }

    /** 00 is laid, and 23 24 34 of the other one fit neither 0 nor 1: 01 and then 12 win 18. */
    private static void lowerBoneFirstOfTwo() {
        Check.part("promise 31: two plays of the same player");
        Bonehall hall = Scene.dealt("", 4, new int[] {0, 1, 6}, new int[] {10, 11, 13});
        hall.play(0, 0);
        Check.due("by the eye of the other one", -18, hall.solve());
        hall.pass();
        due(hall, 18, 1, 0);
    }

    /** Endings of many deals, compared with what comes of playing each way on new halls to the end. */
    private static void solvedByPlaying() {
        Check.part("promises 31 to 33: 'if both sides play so that it is best for them', by playing it out");
        int asked = 0;
        for (int seed = 0; seed < 60; seed++) {
            boolean isPartners = seed % 3 == 0;
            int highest = 3 + seed % 2;
            Replay replay = isPartners ? new Replay("p", highest, 4, 2, seed * 31) : new Replay("", highest, 2, 3, seed * 31);
            Bonehall hall = replay.hall();
            while (replay.isGoing()) {
                if (hall.laid() > 0) {
                    due(hall, replay.value(), replay.bestBone(), replay.bestEnd());
                    asked++;
                }
                replay = replay.thenAny(seed);
                hall = replay.hall();
            }
        }
        Check.due("many were asked", true, asked > 200);
    }

    /** A round that is told by its plays, so that it can be played again from the start in another way. */
    private static final class Replay {
        private final String rules;
        private final int highest;
        private final int players;
        private final int hand;
        private final int seed;
        private final List<int[]> moves = new ArrayList<>();
        private int[] bestMove;

        Replay(String rules, int highest, int[]... hands) {
            this(rules, highest, hands.length, hands[0].length, Scene.seedFor(highest, hands));
        }

        Replay(String rules, int highest, int players, int hand, int seed) {
            this.rules = rules;
            this.highest = highest;
            this.players = players;
            this.hand = hand;
            this.seed = seed;
        }

        Replay then(int bone, int end) {
            Replay longer = new Replay(rules, highest, players, hand, seed);
            longer.moves.addAll(moves);
            longer.moves.add(new int[] {bone, end});
            return longer;
        }

        Bonehall hall() {
            Bonehall hall = Scene.begun(rules, highest, players, hand);
            hall.deal(seed);
            for (int[] move : moves) {
                if (move[0] < 0) {
                    hall.pass();
                } else {
                    hall.play(move[0], move[1]);
                }
            }
            return hall;
        }

        boolean isGoing() {
            return Scene.isGoing(hall());
        }

        /** All ways to go on, by rising bones and ends; a pass alone if there is none. */
        private List<int[]> ways(Bonehall hall) {
            List<int[]> ways = new ArrayList<>();
            for (int index = 0; index < hall.inHand(hall.turn()); index++) {
                int bone = hall.handAt(hall.turn(), index);
                for (int end = 0; end < Math.max(1, hall.ends()); end++) {
                    if (hall.laid() == 0 || hall.fits(bone, end)) {
                        ways.add(new int[] {bone, end});
                    }
                }
            }
            if (ways.isEmpty()) {
                ways.add(new int[] {-1, -1});
            }
            return ways;
        }

        Replay thenAny(int dice) {
            List<int[]> ways = ways(hall());
            int[] move = ways.get((dice + moves.size()) % ways.size());
            return then(move[0], move[1]);
        }

        int value() {
            Bonehall hall = hall();
            int side = hall.turn() % 2;
            int best = Integer.MIN_VALUE;
            for (int[] move : ways(hall)) {
                int got = then(move[0], move[1]).gainOf(side);
                if (got > best) {
                    best = got;
                    bestMove = move;
                }
            }
            return best;
        }

        private int gainOf(int side) {
            Bonehall hall = hall();
            if (!isGoing()) {
                return hall.points(side) - hall.points(1 - side);
            }
            return hall.turn() % 2 == side ? value() : -value();
        }

        int bestBone() {
            value();
            return bestMove[0];
        }

        int bestEnd() {
            value();
            return bestMove[1];
        }
    }
}
