/** Promises 21 to 28: plays, draws, passes, points, and what passes tell. */
public final class PlayTest implements Refusals {
    public static void main(String[] args) {
        play();
        pointsOfEnds();
        pointsBothWays();
        pointsOfTheWinner();
        closingPoints();
        draw();
        drawsStopAtTwo();
        pass();
        passFreely();
        passesWithDraws();
        isBlocked();
        winnerAndPoints();
        isVoid();
        found();
        foundByAll();
        foundByPartners();
        Check.end("PlayTest");
    }

    private static void play() {
        Check.part("promise 21");
        Bonehall hall = Scene.begun("", 3, 2, 2);
        Check.refuses("bone 10 before a round", BOUNDS, hall, () -> hall.play(10, 0));
        Check.refuses("before a round", STATE, hall, () -> hall.play(9, 0));
        hall.deal(Scene.seedFor(3, new int[] {1, 4}, new int[] {2, 3}));
        Check.refuses("bone -1", BOUNDS, hall, () -> hall.play(-1, 0));
        Check.refuses("the other's bone", NONE, hall, () -> hall.play(2, 0));
        Check.refuses("a bone of the boneyard", NONE, hall, () -> hall.play(9, 0));
        Check.due("the first bone", 0, hall.play(4, Integer.MIN_VALUE));
        Check.refuses("a bone that is laid", NONE, hall, () -> hall.play(4, 0));
        Check.refuses("no fit", UNSUPPORTED, hall, () -> hall.play(2, 0));
        Check.refuses("end 2", UNSUPPORTED, hall, () -> hall.play(2, 2));
        Check.refuses("end -1", UNSUPPORTED, hall, () -> hall.play(2, -1));
        Check.refuses("not the own bone, no end", NONE, hall, () -> hall.play(1, 9));
        hall.pass();
        Check.refuses("end 2", UNSUPPORTED, hall, () -> hall.play(1, 2));
        Check.due("the last bone", 5, hall.play(1, 1));
        Check.due("hand", 0, hall.inHand(0));
        Check.refuses("after the round", STATE, hall, () -> hall.play(2, 0));
        Check.refuses("bone 10 after the round", BOUNDS, hall, () -> hall.play(10, 0));
    }

    private static void pointsOfEnds() {
        int[][] hands = {{3, 5, 8}, {1, 2, 6}};
        Bonehall fives = Scene.dealt("f", 3, hands);
        Check.due("23 by fives", 5, fives.play(8, 0));
        Check.due("points", 5, fives.points(0));
        Check.due("3 0 by fives", 0, fives.play(2, 0));
        Check.due("points of the other", 0, fives.points(1));

        Bonehall threes = Scene.dealt("t", 3, hands);
        Check.due("23 by threes", 0, threes.play(8, 0));
        Check.due("3 0 by threes", 3, threes.play(2, 0));
        Check.due("points of the other", 3, threes.points(1));
        Check.due("0 0 by threes", 0, threes.play(3, 0));
        Check.due("no points by 0", 0, threes.points(0));

        Bonehall none = Scene.dealt("", 3, hands);
        Check.due("no rule", 0, none.play(8, 0));
    }

    /** The bone 48 is 6 9, whose sum is 15. */
    private static void pointsBothWays() {
        String[] rules = {"ft", "f", "t", ""};
        int[] due = {30, 15, 15, 0};
        for (int times = 0; times < rules.length; times++) {
            Bonehall hall = Scene.begun(rules[times], 9, 2, 9);
            boolean isPlayed = false;
            for (int seed = 0; seed < 200 && !isPlayed; seed++) {
                int player = hall.deal(seed);
                for (int index = 0; index < 9 && !isPlayed; index++) {
                    if (hall.handAt(player, index) == 48) {
                        Check.due("6 9 by " + rules[times], due[times], hall.play(48, 0));
                        Check.due("points", due[times], hall.points(player));
                        isPlayed = true;
                    }
                }
                hall.close();
                hall.begin(9, 2, 9);
            }
            Check.due("it was played", true, isPlayed);
        }
    }

    private static void pointsOfTheWinner() {
        Bonehall three = Scene.dealt("", 3, new int[] {1, 4}, new int[] {2, 3}, new int[] {0, 8});
        three.play(4, 0);
        three.pass();
        three.pass();
        Check.due("02 03 and 00 23", 10, three.play(1, 0));
        Check.due("points 1", 0, three.points(1));
        Check.due("winner", 0, three.winner());

        Bonehall partners = Scene.dealt("p", 3, new int[] {1, 9}, new int[] {2, 5}, new int[] {4, 7}, new int[] {0, 8});
        partners.play(9, 0);
        partners.pass();
        partners.pass();
        Check.due("23", 0, partners.play(8, 0));
        partners.pass();
        Check.due("12", 0, partners.play(5, 1));
        Check.due("11", 0, partners.play(4, 1));
        partners.pass();
        Check.due("01, with 02 and 00 of the others left, and 22 of the partner", 2, partners.play(1, 1));
        Check.due("points", 2, partners.points(0));
        Check.due("side 0", 0, partners.winner());

        Bonehall fives = Scene.dealt("f", 3, new int[] {4, 6}, new int[] {2, 5});
        Check.due("sum 2", 0, fives.play(4, 0));
        Check.due("sum 4", 0, fives.play(5, 0));
        Check.due("sum 5, and 02 is left", 7, fives.play(6, 0));
        Check.due("both come", 7, fives.points(0));
    }

    private static void closingPoints() {
        int[][] hands = {{5, 6}, {1, 8}};
        for (String rules : new String[] {"c", ""}) {
            Bonehall hall = Scene.dealt(rules, 3, hands);
            hall.play(6, 0);
            hall.play(8, 1);
            Check.due("12 at 1 and 2", rules.isEmpty() ? 1 : 26, hall.play(5, 0));
            Check.due("points", rules.isEmpty() ? 1 : 26, hall.points(0));
        }
        Bonehall other = Scene.dealt("c", 3, hands);
        other.play(6, 0);
        other.play(8, 1);
        Check.due("at the other end", 26, other.play(5, 1));

        Bonehall oneHalf = Scene.dealt("c", 3, new int[] {1, 4}, new int[] {2, 3});
        oneHalf.play(4, 0);
        oneHalf.pass();
        Check.due("01 fits both ends by the 1 alone", 5, oneHalf.play(1, 0));

        Bonehall isDouble = Scene.dealt("c", 3, new int[] {1, 2, 4}, new int[] {0, 5, 8});
        isDouble.play(1, 0);
        isDouble.play(0, 0);
        isDouble.play(2, 1);
        isDouble.play(5, 1);
        Check.due("11 fits both ends", 5, isDouble.play(4, 0));
    }

    private static void draw() {
        Check.part("promise 22");
        int[][] hands = {{0, 9}, {4, 5}};
        Bonehall hall = Scene.begun("d", 3, 2, 2);
        Check.refuses("before a round", STATE, hall, hall::draw);
        hall.deal(Scene.seedForYard(new int[] {7, 2, 6}, 3, hands));
        Check.refuses("nothing is laid", UNSUPPORTED, hall, hall::draw);
        hall.play(9, 0);
        Check.refuses("a pass before a draw", UNSUPPORTED, hall, hall::pass);
        Check.due("22 first", 7, hall.draw());
        Check.due("the turn stays", 1, hall.turn());
        Check.due("02 next", 2, hall.draw());
        Check.due("hand", 4, hall.inHand(1));
        Check.due("yard", 4, hall.yard());
        Check.refuses("still a pass before a draw", UNSUPPORTED, hall, hall::pass);
        Check.due("13 fits", 6, hall.draw());
        Check.refuses("13 can be played", UNSUPPORTED, hall, hall::draw);
        Check.refuses("13 has to be played", UNSUPPORTED, hall, hall::pass);
        Check.due("13 is played", 0, hall.play(6, 1));

        Bonehall without = Scene.dealt("", 3, hands);
        without.play(9, 0);
        Check.refuses("no such rule", UNSUPPORTED, without, without::draw);
        without.close();
        Check.refuses("no match", STATE, without, without::draw);
    }

    private static void drawsStopAtTwo() {
        int[][] hands = {{8, 9}, {0, 2}, {4, 5}};
        Bonehall hall = Scene.begun("d", 3, 3, 2);
        hall.deal(Scene.seedForYard(new int[] {7, 1}, 3, hands));
        hall.play(9, 0);
        Check.due("22", 7, hall.draw());
        Check.due("01, as three were left", 1, hall.draw());
        Check.due("two are left", 2, hall.yard());
        Check.due("still no play", false, hall.canPlay(1));
        Check.refuses("two are left", UNSUPPORTED, hall, hall::draw);
        Check.part("promise 23");
        Check.due("the pass", 2, hall.pass());
        Check.due("11 and 12 cannot either", 0, hall.pass());
    }

    private static void pass() {
        Check.part("promise 23");
        Bonehall hall = Scene.begun("", 3, 2, 2);
        Check.refuses("before a round", STATE, hall, hall::pass);
        hall.deal(Scene.seedFor(3, new int[] {0, 1}, new int[] {7, 9}));
        Check.refuses("the first bone", UNSUPPORTED, hall, hall::pass);
        hall.play(9, 0);
        Check.due("player 0 cannot", 1, hall.pass());
        Check.due("the second pass", -1, hall.pass());
        Check.due("four pips less one", 3, hall.points(0));
        Check.due("none for the other", 0, hall.points(1));
        Check.refuses("after the round", STATE, hall, hall::pass);

        Bonehall between = Scene.dealt("", 3, new int[] {1, 4, 6}, new int[] {2, 3, 8});
        between.play(4, 0);
        Check.due("no 1", 0, between.pass());
        Check.refuses("01 fits", UNSUPPORTED, between, between::pass);
        between.play(6, 0);
        between.play(3, 1);
        Check.due("the round goes on", 0, between.turn());
    }

    private static void passFreely() {
        Bonehall hall = Scene.dealt("r", 3, new int[] {0, 1}, new int[] {7, 9});
        Check.due("with nothing laid", 0, hall.pass());
        Check.due("nothing is known", false, hall.isVoid(1, 3));
        Check.due("both", -1, hall.pass());
        Check.due("1 pip against 10", 9, hall.points(0));
        Check.due("winner", 0, hall.winner());
    }

    private static void passesWithDraws() {
        int[][] hands = {{0, 9}, {3, 4}};
        Bonehall hall = Scene.dealt("dr", 3, hands);
        hall.play(9, 0);
        Check.due("a false pass", 0, hall.pass());
        Check.refuses("00 at 33 can draw", UNSUPPORTED, hall, hall::pass);
        while (!hall.canPlay(0) && hall.yard() > 2) {
            hall.draw();
        }
        Check.due("the draws do not count", -1, hall.pass());
    }

    private static void isBlocked() {
        Check.part("promise 24");
        Bonehall hall = Scene.begun("r", 3, 2, 5);
        Check.refuses("before a round", STATE, hall, hall::isBlocked);
        hall.deal(Scene.seedFor(3, new int[] {0, 1, 2, 3, 9}, new int[] {4, 5, 6, 7, 8}));
        Check.refuses("nothing is laid", UNSUPPORTED, hall, hall::isBlocked);
        hall.play(1, 0);
        Check.due("ends 0 1", false, hall.isBlocked());
        hall.play(4, 1);
        hall.play(0, 0);
        hall.play(5, 0);
        Check.due("ends 0 2", false, hall.isBlocked());
        hall.play(2, 1);
        hall.pass();
        Check.due("03 is left", false, hall.isBlocked());
        hall.play(3, 0);
        hall.play(6, 1);
        Check.due("ends 0 1 with all their bones", true, hall.isBlocked());
        hall.pass();
        hall.pass();
        Check.refuses("after the round", STATE, hall, hall::isBlocked);

        Bonehall last = Scene.dealt("", 3, new int[] {1, 2, 6, 8, 9}, new int[] {0, 3, 4, 5, 7});
        last.play(1, 0);
        last.play(4, 1);
        last.play(6, 1);
        last.play(3, 1);
        last.play(2, 0);
        last.play(5, 1);
        Check.due("ends", 0, last.endAt(0) + last.endAt(1) - 1);
        Check.due("00 alone fits", false, last.isBlocked());
        last.pass();
        last.play(0, 0);
        Check.due("and then none", true, last.isBlocked());

        Bonehall yard = Scene.dealt("", 3, new int[] {0, 1}, new int[] {7, 9});
        yard.play(9, 0);
        Check.due("the boneyard counts", false, yard.isBlocked());
    }

    private static void winnerAndPoints() {
        Check.part("promises 25 and 26");
        Bonehall hall = Scene.begun("", 3, 2, 2);
        Check.refuses("no round is over", NONE, hall, hall::winner);
        hall.deal(Scene.seedFor(3, new int[] {2, 3}, new int[] {1, 4}));
        Check.refuses("the first goes on", NONE, hall, hall::winner);
        hall.play(4, 0);
        hall.pass();
        hall.play(1, 0);
        Check.due("winner", 1, hall.winner());
        Check.due("points", 5, hall.points(1));
        Check.due("points of the other", 0, hall.points(0));
        hall.deal(Scene.seedFor(3, new int[] {0, 1}, new int[] {7, 9}));
        Check.due("the last round's still", 1, hall.winner());
        hall.play(9, 0);
        hall.pass();
        hall.pass();
        Check.due("the next winner", 0, hall.winner());
        Check.due("points add up", 3, hall.points(0));
        Check.due("points stay", 5, hall.points(1));
        Check.refuses("side 2", BOUNDS, hall, () -> hall.points(2));
        Check.refuses("side -1", BOUNDS, hall, () -> hall.points(-1));
        Bonehall partners = Scene.begun("p", 3, 4, 2);
        Check.due("side 1", 0, partners.points(1));
        Check.refuses("side 2 of partners", BOUNDS, partners, () -> partners.points(2));
        Bonehall three = Scene.begun("", 3, 3, 2);
        Check.due("side 2", 0, three.points(2));
        Check.refuses("side 3", BOUNDS, three, () -> three.points(3));

        Bonehall alone = Scene.dealt("", 3, new int[] {1, 9}, new int[] {2, 4}, new int[] {5, 7});
        passAll(alone);
        Check.due("1 pip against 4 and 7", 0, alone.winner());
        Check.due("all others less the own", 10, alone.points(0));
        Bonehall tie = Scene.dealt("", 3, new int[] {2, 9}, new int[] {0, 4}, new int[] {5, 7});
        passAll(tie);
        Check.due("2 pips, 2 and 7", -1, tie.winner());
        Check.due("nothing for anybody", 0, tie.points(0) + tie.points(1) + tie.points(2));
    }

    private static void passAll(Bonehall hall) {
        hall.play(9, 0);
        hall.pass();
        hall.pass();
        Check.due("the last pass", -1, hall.pass());
    }

    private static void isVoid() {
        Check.part("promise 27");
        Bonehall hall = Scene.begun("", 3, 2, 2);
        Check.refuses("player 2", BOUNDS, hall, () -> hall.isVoid(2, 0));
        Check.refuses("player -1, no value", BOUNDS, hall, () -> hall.isVoid(-1, 9));
        Check.refuses("value 4", ILLEGAL, hall, () -> hall.isVoid(0, 4));
        Check.refuses("value -1", ILLEGAL, hall, () -> hall.isVoid(1, -1));
        Check.due("before a round", false, hall.isVoid(0, 3));
        hall.deal(Scene.seedFor(3, new int[] {0, 4}, new int[] {6, 7}));
        hall.play(6, 0);
        Check.due("11 could be played", false, hall.isVoid(0, 1));
        hall.play(4, 0);
        hall.pass();
        for (int value = 0; value <= 3; value++) {
            Check.due("value " + value, value == 1 || value == 3, hall.isVoid(1, value));
            Check.due("value " + value + " of the other", false, hall.isVoid(0, value));
        }
        hall.pass();
        Check.due("the last pass tells too", true, hall.isVoid(0, 3));
        hall.deal(4);
        Check.due("a new round", false, hall.isVoid(1, 3));
        forgottenAtTheEnd();
        drawForgets();
    }

    private static void forgottenAtTheEnd() {
        Bonehall hall = Scene.dealt("", 3, new int[] {0, 1}, new int[] {7, 9});
        hall.play(9, 0);
        hall.pass();
        Check.due("3 is known", true, hall.isVoid(0, 3));
        hall.close();
        hall.begin(3, 2, 2);
        Check.due("a new match", false, hall.isVoid(0, 3));
    }

    /** Bones of a set to four: 14 24 34 44 against 00 03 04 33. */
    private static void drawForgets() {
        Bonehall hall = Scene.dealt("dr", 4, new int[] {8, 11, 13, 14}, new int[] {0, 3, 4, 12});
        hall.play(14, 0);
        Check.due("a false pass", 0, hall.pass());
        hall.play(8, 0);
        Check.due("another one", 0, hall.pass());
        Check.due("4 is known", true, hall.isVoid(1, 4));
        Check.due("1 is known", true, hall.isVoid(1, 1));
        hall.play(11, 0);
        hall.draw();
        Check.due("4 is forgotten", false, hall.isVoid(1, 4));
        Check.due("1 is forgotten", false, hall.isVoid(1, 1));
        Check.due("nothing is found", 0, hall.found());
    }

    private static void found() {
        Check.part("promise 28");
        Bonehall hall = Scene.dealt("r", 3, new int[] {0, 1, 4}, new int[] {2, 5, 6});
        hall.play(4, 0);
        hall.pass();
        Check.due("1 is known", true, hall.isVoid(1, 1));
        hall.play(1, 0);
        hall.play(2, 1);
        Check.due("02 has no 1", 0, hall.found());
        Check.due("still known", true, hall.isVoid(1, 1));
        hall.pass();
        Check.due("12 gets nothing", 0, hall.play(5, 0));
        Check.due("found", 1, hall.found());
        Check.due("20 for the other", 20, hall.points(0));
        Check.due("none for the own", 0, hall.points(1));
        Check.due("forgotten", false, hall.isVoid(1, 1));
        Check.due("of the other it is known still", true, hall.isVoid(0, 2));
        hall.close();
        Check.due("no match", 0, hall.found());
    }

    private static void foundByAll() {
        Bonehall three = Scene.dealt("r", 3, new int[] {1, 9}, new int[] {3, 6}, new int[] {5, 8});
        three.play(9, 0);
        three.pass();
        three.play(8, 0);
        three.pass();
        Check.due("03 at 3 2", 0, three.play(3, 0));
        Check.due("found", 1, three.found());
        Check.due("20 for 0", 20, three.points(0));
        Check.due("none for 1", 0, three.points(1));
        Check.due("20 for 2", 20, three.points(2));
    }

    private static void foundByPartners() {
        Bonehall hall = Scene.dealt("pr", 3, new int[] {1, 9}, new int[] {3, 6}, new int[] {4, 5}, new int[] {0, 8});
        hall.play(9, 0);
        hall.pass();
        hall.pass();
        hall.play(8, 1);
        hall.pass();
        Check.due("03 at 3 2", 0, hall.play(3, 0));
        Check.due("20 once for side 0", 20, hall.points(0));
        Check.due("none for side 1", 0, hall.points(1));
    }
}
