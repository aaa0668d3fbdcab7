/** The edges that the terms Playing and What a pass tells and the promises 21 to 28 name, a sentence a test. */
public final class PlayingEdgeTest implements Refusals {
    public static void main(String[] args) {
        whoCanPlayHasTo();
        whoCannotDraws();
        threeInTheBoneyard();
        twoInTheBoneyard();
        noRuleToDraw();
        blockedByAll();
        drawsBetween();
        refusedPassesDoNotCount();
        wonAtOnce();
        fives();
        threes();
        fivesAndThrees();
        noPointsByNought();
        pointsGoToSides();
        twentyFiveMore();
        notTheLastBone();
        notByOneHalf();
        notADouble();
        justOneWithFewest();
        fewestAmongSides();
        lessItsOwn();
        meaninglessEnd();
        allThatIsLaidIsBlocked();
        winners();
        Check.end("PlayingEdgeTest");
    }

    private static void whoCanPlayHasTo() {
        Check.part("promise 23: 'Who can play has to, unless rule r holds'");
        int[][] hands = {{3, 9}, {2, 6}};
        Bonehall hall = Scene.dealt("", 3, hands);
        Check.refuses("nothing is laid", UNSUPPORTED, hall, hall::pass);
        hall.play(9, 0);
        Check.refuses("13 fits", UNSUPPORTED, hall, hall::pass);
        Bonehall freely = Scene.dealt("r", 3, hands);
        Check.due("nothing is laid", 1, freely.pass());
        freely.play(6, 0);
        Check.due("33 fits", 1, freely.pass());
        Bonehall drawn = Scene.dealt("dr", 3, hands);
        drawn.play(9, 0);
        Check.refuses("who can play does not draw", UNSUPPORTED, drawn, drawn::draw);
        Check.due("but passes, though six are in the boneyard", 0, drawn.pass());
    }

    private static void whoCannotDraws() {
        Check.part("promises 22 and 23: 'Who cannot draws by rule d, one bone after the other'");
        Bonehall hall = Scene.begun("d", 3, 2, 2);
        hall.deal(Scene.seedForYard(new int[] {7, 0, 3}, 3, new int[] {8, 9}, new int[] {4, 5}));
        hall.play(9, 0);
        int[] due = {7, 0, 3};
        for (int times = 0; times < 3; times++) {
            Check.refuses("'or could draw'", UNSUPPORTED, hall, hall::pass);
            Check.due("drawn", due[times], hall.draw());
            Check.due("turn", 1, hall.turn());
            Check.due("in hand", 3 + times, hall.inHand(1));
            Check.due("in the boneyard", 5 - times, hall.yard());
        }
        Check.refuses("'the player can play'", UNSUPPORTED, hall, hall::draw);
        Check.refuses("has to", UNSUPPORTED, hall, hall::pass);
    }

    /** Three players with four bones of a set to four: three are left. 44 is laid, the player 1 has no 4. */
    private static void threeInTheBoneyard() {
        Check.part("promise 22: 'while more than two are in the boneyard', three");
        Bonehall hall = drawScene("d", true);
        Check.due("three", 3, hall.yard());
        Check.refuses("a pass", UNSUPPORTED, hall, hall::pass);
        hall.draw();
        Check.part("promise 22: 'or not more than two are in the boneyard', two");
        Check.due("two", 2, hall.yard());
        Check.due("still no play", false, hall.canPlay(hall.turn()));
        Check.refuses("a draw", UNSUPPORTED, hall, hall::draw);
        int player = hall.turn();
        Check.due("the pass", (player + 1) % 3, hall.pass());
        Bonehall plays = drawScene("d", false);
        plays.draw();
        Check.due("it can be played", true, plays.canPlay(plays.turn()));
        Check.refuses("a draw", UNSUPPORTED, plays, plays::draw);
        Check.refuses("a pass", UNSUPPORTED, plays, plays::pass);
    }

    /** A round in which the second player cannot play, and after one draw still cannot, or can. */
    private static Bonehall drawScene(String rules, boolean isStuck) {
        for (int seed = 0; seed < 5000; seed++) {
            Bonehall hall = Scene.begun(rules, 4, 3, 4);
            int first = hall.deal(seed);
            int next = (first + 1) % 3;
            int[] row = Scene.shuffled(15, seed);
            hall.play(hall.handAt(first, 0), 0);
            if (!hall.canPlay(next) && isStuck != (hall.fits(row[12], 0) || hall.fits(row[12], 1))) {
                return hall;
            }
        }
        throw new IllegalStateException("no such seed");
    }

    private static void twoInTheBoneyard() {
        Check.part("promise 23: 'and passes if that is not so', two or none in the boneyard");
        for (int yard : new int[] {2, 0}) {
            int[][] two = {{1, 2, 6, 9}, {0, 4, 5, 7}};
            int[][] none = {{1, 2, 3, 6, 9}, {0, 4, 5, 7, 8}};
            Bonehall hall = Scene.dealt("d", 3, yard == 2 ? two : none);
            Check.due("boneyard", yard, hall.yard());
            hall.play(9, 0);
            if (yard == 0) {
                hall.play(8, 0);
                hall.play(3, 0);
            }
            Check.refuses("no draw", UNSUPPORTED, hall, hall::draw);
            if (yard == 2) {
                Check.due("the pass", 0, hall.pass());
            } else {
                Check.refuses("00 fits", UNSUPPORTED, hall, hall::pass);
            }
        }
    }

    private static void noRuleToDraw() {
        Check.part("promises 22 and 23: 'or there is no such rule'");
        for (String rules : new String[] {"", "r"}) {
            Bonehall hall = Scene.dealt(rules, 3, new int[] {8, 9}, new int[] {4, 5});
            hall.play(9, 0);
            Check.refuses("a draw", UNSUPPORTED, hall, hall::draw);
            Check.due("the pass", 0, hall.pass());
        }
    }

    private static void blockedByAll() {
        Check.part("promise 23: 'As all players have passed one behind the other .. the round is blocked'");
        for (int players = 2; players <= 4; players++) {
            Bonehall hall = Scene.begun("r", 6, players, 5);
            int first = hall.deal(7);
            hall.play(hall.handAt(first, 0), 0);
            for (int times = 1; times < players; times++) {
                Check.due("pass " + times, (first + 1 + times) % players, hall.pass());
            }
            Check.due("a play", true, Scene.playLowest(hall));
            for (int times = 1; times < players; times++) {
                Check.due("pass " + times + " after a play", (first + 1 + times) % players, hall.pass());
            }
            Check.due("the last one", -1, hall.pass());
            Check.refuses("it is over", STATE, hall, hall::pass);
            Check.refuses("nobody's turn", STATE, hall, hall::turn);
            hall.deal(8);
            for (int times = 1; times < players; times++) {
                Check.due("counted anew", true, hall.pass() >= 0);
            }
            Check.due("the last one", -1, hall.pass());
        }
    }

    /** 33 is laid; 1 passes falsely with 03, then 0 draws 22 01 02 12 to its 00, and passes. */
    private static void drawsBetween() {
        Check.part("promise 23: 'draws between not counted'");
        Bonehall hall = Scene.begun("dr", 3, 2, 2);
        hall.deal(Scene.seedForYard(new int[] {7, 1, 2, 5}, 3, new int[] {0, 9}, new int[] {3, 4}));
        hall.play(9, 0);
        Check.due("1 passes", 0, hall.pass());
        for (int times = 0; times < 4; times++) {
            Check.refuses("0 could draw", UNSUPPORTED, hall, hall::pass);
            hall.draw();
        }
        Check.due("0 passes", -1, hall.pass());
        Check.refuses("it is over", STATE, hall, hall::turn);
        Check.part("promise 23: a play after draws begins anew");
        Bonehall other = Scene.begun("dr", 3, 2, 2);
        other.deal(Scene.seedForYard(new int[] {7, 1, 2, 6}, 3, new int[] {0, 9}, new int[] {3, 4}));
        other.play(9, 0);
        Check.due("1 passes", 0, other.pass());
        for (int times = 0; times < 4; times++) {
            other.draw();
        }
        Check.due("13 is played", 0, other.play(6, 0));
        Check.due("1 passes, though 11 fits", 0, other.pass());
        Check.due("0 plays 01", 0, other.play(1, 1));
        Check.due("and it goes on", 1, other.turn());
    }

    private static void refusedPassesDoNotCount() {
        Check.part("'A method that throws an exception changes nothing', a refused pass is none");
        Bonehall hall = Scene.dealt("", 3, new int[] {1, 4, 6}, new int[] {2, 3, 8});
        hall.play(4, 0);
        Check.due("1 passes", 0, hall.pass());
        for (int times = 0; times < 5; times++) {
            Check.refuses("01 fits", UNSUPPORTED, hall, hall::pass);
            Check.refuses("no rule", UNSUPPORTED, hall, hall::draw);
        }
        Check.due("turn", 0, hall.turn());
        hall.play(1, 0);
        Check.due("and goes on", 1, hall.turn());
    }

    private static void wonAtOnce() {
        Check.part("promise 21: 'Who has no bone left has won the round, at once'");
        Bonehall hall = Scene.dealt("r", 3, new int[] {3, 9}, new int[] {6, 8}, new int[] {0, 7});
        hall.play(9, 0);
        hall.pass();
        hall.pass();
        Check.due("13, 23, 00 and 22", 13, hall.play(3, 0));
        Check.refuses("1 could play", STATE, hall, () -> hall.play(6, 0));
        Check.refuses("no turn", STATE, hall, hall::turn);
        Check.due("winner", 0, hall.winner());
        Check.due("no bone left", 0, hall.inHand(0));
        Check.due("the others keep theirs", 4, hall.inHand(1) + hall.inHand(2));
    }

    private static Bonehall whole(String rules) {
        Bonehall hall = Scene.begun("r" + rules, 3, 2, 5);
        hall.deal(2);
        return hall;
    }

    private static void dueSum(Bonehall hall, int bone, int end, int sum, int gain) {
        int player = Scene.holds(hall, 0, bone) ? 0 : 1;
        int before = hall.points(player);
        Check.due("gain", gain, Scene.lay(hall, bone, end));
        Check.due("sum", sum, hall.sum());
        Check.due("points", before + gain, hall.points(player));
    }

    private static void fives() {
        Check.part("promise 21: 'by which the sum of the ends can be divided by five'");
        Bonehall five = whole("f");
        dueSum(five, 8, 0, 5, 5);
        dueSum(five, 9, 1, 8, 0);
        Bonehall near = whole("f");
        dueSum(near, 7, 0, 4, 0);
        dueSum(near, 5, 0, 5, 5);
        Bonehall six = whole("f");
        dueSum(six, 9, 0, 6, 0);
        Bonehall ten = whole("fx");
        dueSum(ten, 9, 0, 6, 0);
        dueSum(ten, 8, 0, 8, 0);
        dueSum(ten, 7, 3, 10, 10);
    }

    private static void threes() {
        Check.part("promise 21: 'by rule t, likewise by three'");
        Bonehall hall = whole("t");
        dueSum(hall, 9, 0, 6, 6);
        dueSum(hall, 3, 0, 6, 6);
        dueSum(hall, 6, 0, 1, 0);
        Bonehall near = whole("t");
        dueSum(near, 4, 0, 2, 0);
        dueSum(near, 1, 0, 2, 0);
        Bonehall four = whole("t");
        dueSum(four, 6, 0, 4, 0);
        Bonehall five = whole("t");
        dueSum(five, 8, 0, 5, 0);
        dueSum(five, 6, 1, 3, 3);
    }

    /** 99 and 69 make 24 in a set to nine, 77 and 17 make 15, and 55 alone makes 10. */
    private static void fivesAndThrees() {
        Check.part("promise 21: 'both can come'");
        dueTwo("ft", 77, 17, 14, 0, 15, 30);
        dueTwo("f", 77, 17, 14, 0, 15, 15);
        dueTwo("t", 77, 17, 14, 0, 15, 15);
        dueTwo("ft", 99, 69, 18, 18, 24, 24);
        dueTwo("f", 99, 69, 18, 0, 24, 0);
        dueTwo("ft", 55, 15, 10, 10, 11, 0);
        dueTwo("t", 55, 15, 10, 0, 11, 0);
    }

    private static void dueTwo(String rules, int one, int two, int sumOne, int gainOne, int sumTwo, int gainTwo) {
        for (int seed = 0; seed < 5000; seed++) {
            Bonehall hall = Scene.begun("r" + rules, 9, 4, 9);
            hall.deal(seed);
            int first = hall.bone(one / 10, one % 10);
            int second = hall.bone(two / 10, two % 10);
            if (isInAHand(hall, first) && isInAHand(hall, second)) {
                Check.due(rules + " gain by " + one, gainOne, Scene.lay(hall, first, 0));
                Check.due("sum", sumOne, hall.sum());
                Check.due(rules + " gain by " + two, gainTwo, Scene.lay(hall, second, 0));
                Check.due("sum", sumTwo, hall.sum());
                return;
            }
        }
        Check.due("a seed for " + one, "found", "none");
    }

    private static boolean isInAHand(Bonehall hall, int bone) {
        for (int player = 0; player < 4; player++) {
            if (Scene.holds(hall, player, bone)) {
                return true;
            }
        }
        return false;
    }

    private static void noPointsByNought() {
        Check.part("promise 21: 'and is not 0'");
        Bonehall hall = whole("ft");
        dueSum(hall, 0, 0, 0, 0);
        dueSum(hall, 3, 0, 3, 3);
        Bonehall both = whole("ft");
        dueSum(both, 1, 0, 1, 0);
        dueSum(both, 5, 1, 2, 0);
        dueSum(both, 2, 1, 0, 0);
    }

    /** 23 is the first bone, by each of the four, for five points. */
    private static void pointsGoToSides() {
        int[][] others = {{0, 1}, {2, 4}, {3, 9}};
        for (int holder = 0; holder < 4; holder++) {
            int[][] hands = new int[4][];
            for (int player = 0; player < 4; player++) {
                hands[player] = player == holder ? new int[] {5, 8} : others[player < holder ? player : player - 1];
            }
            Check.part("'Points go to sides', those of the partner " + holder);
            Bonehall partners = Scene.dealt("prf", 3, hands);
            Check.due("23", 5, Scene.lay(partners, 8, 0));
            Check.due("the own side", 5, partners.points(holder % 2));
            Check.due("the other side", 0, partners.points(1 - holder % 2));
            Check.part("'Points go to sides', those of the player " + holder);
            Bonehall each = Scene.dealt("rf", 3, hands);
            Check.due("23", 5, Scene.lay(each, 8, 0));
            for (int side = 0; side < 4; side++) {
                Check.due("side " + side, side == holder ? 5 : 0, each.points(side));
            }
        }
    }

    /** The last bone is 12, at the ends 1 2, both ways; the other one has 03 left. */
    private static void twentyFiveMore() {
        Check.part("promise 21: 'by rule c, 25 more'");
        for (int end = 0; end < 2; end++) {
            Bonehall hall = Scene.dealt("cr", 3, new int[] {5, 6}, new int[] {3, 8});
            Scene.lay(hall, 6, 0);
            Scene.lay(hall, 8, 1);
            Check.due("ends", "12", Scene.ends(hall));
            Check.due("12 at " + end, 28, Scene.lay(hall, 5, end));
            Check.due("points", 28, hall.points(0));
        }
    }

    private static void notTheLastBone() {
        Check.part("promise 21: 'if the last bone ..', 12 before the last one");
        Bonehall hall = Scene.dealt("cr", 3, new int[] {0, 5, 6}, new int[] {2, 3, 8});
        Scene.lay(hall, 6, 0);
        Scene.lay(hall, 8, 1);
        Check.due("12 at 1 2", 0, Scene.lay(hall, 5, 0));
        Check.due("points", 0, hall.points(0));
    }

    private static void notByOneHalf() {
        Check.part("promise 21: 'fitted one open end by one half, and another open end by the other half'");
        int[][] hands = {{5, 6, 7}, {2, 4, 8}};
        Bonehall one = Scene.dealt("cr", 3, hands);
        Scene.lay(one, 6, 0);
        Scene.lay(one, 4, 0);
        Scene.lay(one, 8, 0);
        Check.due("ends", "12", Scene.ends(one));
        Scene.lay(one, 7, 1);
        Check.due("ends", "12", Scene.ends(one));
        Check.due("12 at 1 2, 02 is left", 27, Scene.lay(one, 5, 0));
        Bonehall alike = Scene.dealt("cr", 3, new int[] {5, 7}, new int[] {0, 2});
        Scene.lay(alike, 7, 0);
        Check.due("ends", "22", Scene.ends(alike));
        Check.due("12 at 2 2 by the 2 alone", 2, Scene.lay(alike, 5, 0));
        Bonehall spinner = Scene.dealt("crx", 3, new int[] {5, 7}, new int[] {0, 3});
        Scene.lay(spinner, 7, 0);
        Check.due("ends", "2222", Scene.ends(spinner));
        Check.due("12 at four ends of 2", 3, Scene.lay(spinner, 5, 3));
        Bonehall none = Scene.dealt("cr", 3, new int[] {6, 8}, new int[] {0, 3});
        Scene.lay(none, 6, 0);
        Check.due("23 at 1 3", 3, Scene.lay(none, 8, 1));
        Bonehall many = Scene.dealt("crx", 3, new int[] {5, 7}, new int[] {0, 6}, new int[] {3, 8});
        Scene.lay(many, 7, 0);
        Scene.lay(many, 8, 0);
        Scene.lay(many, 6, 3);
        Check.due("ends", "2221", Scene.ends(many));
        Check.due("12 at one of five, 00 and 03 left", 28, Scene.lay(many, 5, 1));
    }

    private static void notADouble() {
        Check.part("promise 21: 'if the last bone is no double'");
        Bonehall hall = Scene.dealt("cr", 3, new int[] {4, 6}, new int[] {0, 8}, new int[] {3, 5});
        Scene.lay(hall, 6, 0);
        Scene.lay(hall, 8, 1);
        Scene.lay(hall, 5, 1);
        Check.due("ends", "11", Scene.ends(hall));
        Check.due("11 at 1 1, 00 and 03 left", 3, Scene.lay(hall, 4, 0));
    }

    private static void dueBlock(String rules, int winner, int points, int[]... hands) {
        Bonehall hall = Scene.dealt(rules, 3, hands);
        for (int times = 1; times < hands.length; times++) {
            hall.pass();
        }
        Check.due("the last pass", -1, hall.pass());
        Check.due("winner", winner, hall.winner());
        int sides = rules.contains("p") ? 2 : hands.length;
        for (int side = 0; side < sides; side++) {
            Check.due("points of " + side, side == winner ? points : 0, hall.points(side));
        }
        Check.due("rounds", 1, hall.rounds());
    }

    private static void justOneWithFewest() {
        Check.part("promise 23: 'won by the side with fewest pips in hand, if there is just one such'");
        dueBlock("r", 0, 9, new int[] {0, 1}, new int[] {7, 9});
        dueBlock("r", 1, 9, new int[] {7, 9}, new int[] {0, 1});
        dueBlock("r", -1, 0, new int[] {0, 9}, new int[] {2, 6});
        dueBlock("r", -1, 0, new int[] {0, 3}, new int[] {1, 2}, new int[] {7, 9});
        dueBlock("r", -1, 0, new int[] {7, 9}, new int[] {0, 3}, new int[] {1, 2});
        dueBlock("r", -1, 0, new int[] {0, 3}, new int[] {7, 9}, new int[] {1, 2});
        dueBlock("r", -1, 0, new int[] {0, 8}, new int[] {1, 6}, new int[] {2, 5});
    }

    private static void fewestAmongSides() {
        Check.part("promise 23: 'the side with fewest pips', two others alike do not matter");
        dueBlock("r", 2, 9, new int[] {4, 5}, new int[] {2, 3}, new int[] {0, 1});
        dueBlock("r", 0, 9, new int[] {0, 1}, new int[] {4, 5}, new int[] {2, 3});
        Check.part("promise 23: 'the side', both hands of partners together");
        dueBlock("pr", 1, 11, new int[] {7, 8}, new int[] {0, 1}, new int[] {2, 9}, new int[] {3, 4});
        dueBlock("pr", 0, 12, new int[] {1, 2}, new int[] {6, 8}, new int[] {0, 3}, new int[] {5, 9});
        dueBlock("pr", 1, 2, new int[] {0, 1}, new int[] {2, 3}, new int[] {8, 9}, new int[] {4, 5});
        dueBlock("pr", -1, 0, new int[] {0, 9}, new int[] {1, 8}, new int[] {4, 6}, new int[] {2, 7});
    }

    private static void lessItsOwn() {
        Check.part("promise 23: 'it gets those of the others, less its own'");
        dueBlock("r", 1, 17, new int[] {7, 9}, new int[] {0, 2}, new int[] {6, 8});
        dueBlock("r", 3, 19, new int[] {2, 3}, new int[] {4, 8}, new int[] {6, 7}, new int[] {0, 1});
    }

    private static void meaninglessEnd() {
        Check.part("promise 21: 'the end, of no meaning as the first bone'");
        for (int end : new int[] {0, -1, 2, 99, Integer.MIN_VALUE, Integer.MAX_VALUE}) {
            Bonehall hall = Scene.dealt("", 3, new int[] {3, 9}, new int[] {2, 6});
            Check.refuses("bone 10", BOUNDS, hall, () -> hall.play(10, end));
            Check.refuses("not the own one", NONE, hall, () -> hall.play(2, end));
            Check.due("03", 0, hall.play(3, end));
            Check.due("ends", "03", Scene.ends(hall));
        }
    }

    private static void allThatIsLaidIsBlocked() {
        Check.part("promise 24: 'whether no bone that is not laid fits any open end'");
        Bonehall hall = Scene.dealt("r", 3, new int[] {0, 1, 4, 6, 9}, new int[] {2, 3, 5, 7, 8});
        Check.refuses("nothing is laid", UNSUPPORTED, hall, hall::isBlocked);
        int[] bones = {1, 4, 6, 3, 0, 2};
        int[] at = {0, 1, 1, 1, 0, 1};
        for (int index = 0; index < bones.length; index++) {
            Scene.lay(hall, bones[index], at[index]);
            Check.due("others fit", false, hall.isBlocked());
        }
        Check.due("ends", "02", Scene.ends(hall));
        Scene.lay(hall, 5, 1);
        Check.due("ends of 0 and 1, of which each bone is laid", "01", Scene.ends(hall));
        Check.due("22 and 23 and 33 do not fit", true, hall.isBlocked());
        Check.due("nor can anybody play", false, hall.canPlay(0) || hall.canPlay(1));
        Bonehall one = Scene.dealt("", 3, new int[] {3, 8, 9}, new int[] {4, 5, 6});
        one.play(9, 0);
        one.play(6, 0);
        Check.due("03 and 23 fit", false, one.isBlocked());
    }

    private static void winners() {
        Check.part("promise 25: 'which side won the last round', 'if no round is over'");
        Bonehall hall = Scene.begun("pr", 3, 4, 2);
        Check.refuses("no round", NONE, hall, hall::winner);
        hall.deal(Scene.seedFor(3, new int[] {1, 2}, new int[] {6, 8}, new int[] {0, 3}, new int[] {5, 9}));
        Check.refuses("the first one goes on", NONE, hall, hall::winner);
        for (int times = 0; times < 4; times++) {
            hall.pass();
        }
        Check.due("the side, of whose players", 0, hall.winner());
        hall.deal(Scene.seedFor(3, new int[] {0, 9}, new int[] {1, 8}, new int[] {4, 6}, new int[] {2, 7}));
        Check.due("the last one that is over", 0, hall.winner());
        for (int times = 0; times < 4; times++) {
            hall.pass();
        }
        Check.due("'-1 for none'", -1, hall.winner());
    }
}
