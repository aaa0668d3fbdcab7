/** The edges that the term Rounds and the promises 1 to 13 name, a sentence a test. */
public final class RoundsEdgeTest implements Refusals {
    /** Pairs of a set to three: 1, 5, 10, 9, 3 and 3 pips. */
    private static final int[] ONE_PIP = {0, 1};
    private static final int[] FIVE_PIPS = {2, 3};
    private static final int[] TEN_PIPS = {7, 9};
    private static final int[] NINE_PIPS = {6, 8};
    private static final int[] THREE_PIPS = {0, 3};
    private static final int[] THREE_MORE = {1, 2};

    public static void main(String[] args) {
        withoutRules();
        everyLetter();
        rulesStay();
        highestSpot();
        numbersOfBones();
        playersFromNought();
        sides();
        sideOfTheWinner();
        howManyBones();
        partnersNeedFour();
        beginTwice();
        noSecondBegin();
        withoutPoints();
        knownRows();
        seedAsAnInt();
        withoutSign();
        theRestIsTheBoneyard();
        emptyBoneyard();
        firstIsDrawnFirst();
        highestDoubleInAHand();
        noDoubleInAHand();
        firstRoundOfEachMatch();
        winnerBegins();
        nobodyWonTheSecond();
        fewerPipsOfTwo();
        turnsGoRound();
        closeInEachState();
        giveIsLastOfTheBoneyard();
        giveTakesTheLowestOfBefore();
        giveBack();
        giveAfterAPass();
        refusedGive();
        Check.end("RoundsEdgeTest");
    }

    private static void withoutRules() {
        Check.part("promise 1: 'without rules'");
        for (char letter : "psxdftcr".toCharArray()) {
            Check.due("rule " + letter + " held", false, new Bonehall().rule(letter, true));
        }
    }

    private static void everyLetter() {
        Check.part("promise 2: 'if there is no such letter'");
        Bonehall hall = new Bonehall();
        for (int code = 0; code <= Character.MAX_VALUE; code++) {
            hall = code % 256 == 0 ? new Bonehall() : hall;
            boolean isLetter = "psxdftcr".indexOf((char) code) >= 0;
            Check.due("letter " + code, isLetter, isTaken(hall, (char) code));
        }
    }

    private static boolean isTaken(Bonehall hall, char letter) {
        try {
            hall.rule(letter, true);
            return true;
        } catch (IllegalArgumentException e) {
            return false;
        }
    }

    private static void rulesStay() {
        Check.part("promises 3 and 5: 'rules are those that were told', 'rules stay, and can be told anew'");
        int[][] hands = {{4, 8}, {2, 3}};
        Bonehall hall = Scene.dealt("f", 3, hands);
        Check.due("23 by fives", 5, hall.play(8, 0));
        Check.refuses("a rule in a round", STATE, hall, () -> hall.rule('f', false));
        hall.close();
        hall.begin(3, 2, 2);
        hall.deal(Scene.seedFor(3, hands));
        Check.due("by fives still", 5, hall.play(8, 0));
        hall.close();
        Check.due("told anew", true, hall.rule('f', false));
        hall.begin(3, 2, 2);
        hall.deal(Scene.seedFor(3, hands));
        Check.due("no rule", 0, hall.play(8, 0));
    }

    private static void highestSpot() {
        Check.part("promise 3: 'highest: 3 to 9'");
        Check.due("3", 10, new Bonehall().begin(3, 2, 2));
        Check.due("9", 55, new Bonehall().begin(9, 2, 2));
        Bonehall hall = new Bonehall();
        Check.refuses("2", ILLEGAL, hall, () -> hall.begin(2, 2, 2));
        Check.refuses("10", ILLEGAL, hall, () -> hall.begin(10, 2, 2));
        Check.part("promise 3: 'players: 2 to 4'");
        Check.due("2", 28, new Bonehall().begin(6, 2, 7));
        Check.due("4", 28, new Bonehall().begin(6, 4, 7));
        Check.refuses("1", ILLEGAL, hall, () -> hall.begin(6, 1, 7));
        Check.refuses("5", ILLEGAL, hall, () -> hall.begin(6, 5, 2));
        Check.part("promise 3: 'how many bones each one gets, 2 to 9'");
        Check.due("2", 36, new Bonehall().begin(7, 2, 2));
        Check.due("9", 36, new Bonehall().begin(7, 2, 9));
        Check.refuses("1", ILLEGAL, hall, () -> hall.begin(7, 2, 1));
        Check.refuses("10", ILLEGAL, hall, () -> hall.begin(7, 2, 10));
    }

    private static void numbersOfBones() {
        Check.part("promise 6: 'numbered from 0 by their lesser half, of one such by the greater one'");
        for (int highest = 3; highest <= 9; highest++) {
            Bonehall hall = Scene.begun("", highest, 2, 2);
            int last = (highest + 1) * (highest + 2) / 2 - 1;
            Check.due("the first", 0, hall.bone(0, 0));
            Check.due("the last with a 0", highest, hall.bone(highest, 0));
            Check.due("the next one", highest + 1, hall.bone(1, 1));
            Check.due("the last but one", last - 1, hall.bone(highest, highest - 1));
            Check.due("the last", last, hall.bone(highest, highest));
        }
    }

    private static void playersFromNought() {
        Check.part("'There are 2 to 4 players, numbered from 0'");
        for (int players = 2; players <= 4; players++) {
            Bonehall hall = Scene.begun("", 6, players, 3);
            hall.deal(5);
            for (int player = 0; player < players; player++) {
                Check.due("hand of " + player, 3, hall.inHand(player));
            }
            for (int none : new int[] {-1, players, Integer.MIN_VALUE, Integer.MAX_VALUE}) {
                refusesPlayer(players, none);
            }
        }
    }

    private static void refusesPlayer(int players, int player) {
        Bonehall hall = Scene.begun("", 6, players, 3);
        hall.deal(5);
        Check.refuses("inHand(" + player, BOUNDS, hall, () -> hall.inHand(player));
        Check.refuses("handAt(" + player, BOUNDS, hall, () -> hall.handAt(player, 0));
        Check.refuses("pips(" + player, BOUNDS, hall, () -> hall.pips(player));
        Check.refuses("give(" + player, BOUNDS, hall, () -> hall.give(player, 0));
        Check.refuses("canPlay(" + player, BOUNDS, hall, () -> hall.canPlay(player));
        Check.refuses("isVoid(" + player, BOUNDS, hall, () -> hall.isVoid(player, 0));
        Check.refuses("deals(" + player, BOUNDS, hall, () -> hall.deals(player));
        Check.refuses("chance(" + player + " as the eye", BOUNDS, hall, () -> hall.chance(player, 0, 0));
        Check.refuses("chance(" + player + " as the other", BOUNDS, hall, () -> hall.chance(0, player, 0));
    }

    private static void sides() {
        Check.part("promise 26: 'otherwise each player is a side, by the player's number'");
        for (int players = 2; players <= 4; players++) {
            int sides = players;
            Bonehall hall = Scene.begun("", 6, players, 3);
            Check.due("the last side", 0, hall.points(players - 1));
            Check.refuses("one more", BOUNDS, hall, () -> hall.points(sides));
        }
        Check.part("promise 26: '0 and 2 are one side, 1 and 3 the other one'");
        Bonehall partners = Scene.begun("p", 6, 4, 3);
        Check.due("the last side", 0, partners.points(1));
        Check.refuses("one more", BOUNDS, partners, () -> partners.points(2));
    }

    /** The winner has 01 and 12, and all others pass by the rule 'r'; 5 and 5 and 8 pips are with them. */
    private static void sideOfTheWinner() {
        int[] pips = {5, 5, 8};
        for (int winner = 0; winner < 4; winner++) {
            int[][] hands = {{2, 3}, {0, 8}, {4, 9}};
            int[][] all = new int[4][];
            for (int player = 0; player < 4; player++) {
                all[player] = player == winner ? new int[] {1, 5} : hands[player < winner ? player : player - 1];
            }
            int partner = (winner + 2) % 4;
            int ofPartner = pips[partner < winner ? partner : partner - 1];
            for (String rules : new String[] {"pr", "r"}) {
                Check.part("'0 and 2 are one side', winner " + winner + ", rules " + rules);
                Bonehall hall = Scene.dealt(rules, 3, all);
                Scene.lay(hall, 1, 0);
                int side = rules.equals("pr") ? winner % 2 : winner;
                int due = rules.equals("pr") ? 18 - ofPartner : 18;
                Check.due("the pips of all other sides", due, Scene.lay(hall, 5, 1));
                Check.due("winner", side, hall.winner());
                Check.due("points", due, hall.points(side));
                Check.due("none for the next side", 0, hall.points((side + 1) % (rules.equals("pr") ? 2 : 4)));
            }
        }
    }

    private static void howManyBones() {
        Check.part("promise 3: 'if they are too few'");
        int[][] enough = {{3, 2, 5}, {3, 3, 3}, {3, 4, 2}, {4, 3, 5}, {5, 3, 7}, {6, 4, 7}, {7, 4, 9}};
        for (int[] three : enough) {
            int bones = (three[0] + 1) * (three[0] + 2) / 2;
            Check.due(three[1] + " with " + three[2] + " of " + bones, bones,
                    new Bonehall().begin(three[0], three[1], three[2]));
            if (three[2] < 9) {
                Bonehall hall = new Bonehall();
                Check.refuses("one more each of " + bones, UNSUPPORTED, hall,
                        () -> hall.begin(three[0], three[1], three[2] + 1));
            }
        }
    }

    private static void partnersNeedFour() {
        Check.part("promise 3: 'or rule p holds without four players'");
        Bonehall hall = new Bonehall();
        hall.rule('p', true);
        Check.refuses("two", UNSUPPORTED, hall, () -> hall.begin(6, 2, 5));
        Check.refuses("three", UNSUPPORTED, hall, () -> hall.begin(6, 3, 5));
        Check.refuses("five, out of range", ILLEGAL, hall, () -> hall.begin(6, 5, 5));
        Check.due("four", 28, hall.begin(6, 4, 5));
        Check.refuses("two in a match", UNSUPPORTED, hall, () -> hall.begin(6, 2, 5));
        hall.deal(1);
        Check.refuses("two in a round", UNSUPPORTED, hall, () -> hall.begin(6, 2, 5));
        Check.refuses("four in a round", STATE, hall, () -> hall.begin(6, 4, 5));
    }

    private static void beginTwice() {
        Check.part("promise 3: 'if a round was dealt', a match without a round can be begun anew");
        Bonehall hall = Scene.begun("", 9, 4, 9);
        hall.type(54);
        Check.refuses("a rule", STATE, hall, () -> hall.rule('f', true));
        Check.due("a lesser set", 10, hall.begin(3, 2, 3));
        Check.refuses("bone 10", BOUNDS, hall, () -> hall.half(10, true));
        Check.refuses("player 2", BOUNDS, hall, () -> hall.inHand(2));
        Check.due("typed", 0, hall.wipe());
        hall.deal(1);
        Check.due("the new hand", 3, hall.inHand(0));
        Check.due("the new boneyard", 4, hall.yard());
    }

    private static void noSecondBegin() {
        Check.part("promise 3: 'if a round was dealt', in a round and after it");
        Bonehall hall = Scene.begun("r", 3, 2, 2);
        hall.deal(1);
        hall.type(3);
        Check.refuses("a round goes on", STATE, hall, () -> hall.begin(3, 2, 2));
        hall.pass();
        hall.pass();
        Check.refuses("it is over", STATE, hall, () -> hall.begin(4, 3, 2));
        Check.due("the refused ones left what is typed", 1, hall.wipe());
        hall.close();
        Check.due("after the end", 15, hall.begin(4, 3, 2));
    }

    private static void withoutPoints() {
        Check.part("promises 3 and 5: 'without points', 'points are gone'");
        Bonehall hall = Scene.dealt("fr", 3, new int[] {3, 5, 8}, new int[] {1, 2, 6});
        hall.play(8, 0);
        hall.pass();
        hall.pass();
        Check.due("5 by fives, and 7 pips less 6", 6, hall.points(0));
        hall.close();
        hall.begin(3, 2, 2);
        Check.due("points of 0", 0, hall.points(0));
        Check.due("points of 1", 0, hall.points(1));
        Check.refuses("the last winner", NONE, hall, hall::winner);
        Check.due("rounds", 0, hall.rounds());
        hall.deal(1);
        Check.due("points in the round", 0, hall.points(0) + hall.points(1));
        Check.refuses("no round of this match is over", NONE, hall, hall::winner);
    }

    private static void dueHands(int seed, String digits) {
        Check.part("promise 4: the row by the seed " + seed);
        Bonehall hall = Scene.begun("", 3, 4, 2);
        hall.deal(seed);
        for (int place = 0; place < 8; place++) {
            Check.due("bone " + digits.charAt(place), true, Scene.holds(hall, place / 2, digits.charAt(place) - '0'));
        }
        Check.due("the rest", 2, hall.yard());
    }

    /** Worked out apart from this project, the bones of four players in a row. */
    private static void knownRows() {
        dueHands(0, "38716954");
        dueHands(1, "74590321");
        dueHands(-1, "23594106");
        dueHands(Integer.MIN_VALUE, "60915274");
        dueHands(Integer.MAX_VALUE, "45201386");
    }

    /** In longs that do not wrap as ints, the seed 0 would deal 2 6, 3 1, 7 9 and 8 4. */
    private static void seedAsAnInt() {
        Check.part("promise 4: 'z becomes z times 1103515245 plus 12345, as an int'");
        Bonehall hall = Scene.begun("", 3, 4, 2);
        hall.deal(0);
        Check.due("03 with player 0", 3, hall.handAt(0, 0));
        Check.due("23 with player 0", 8, hall.handAt(0, 1));
        Check.due("06 of the longs is elsewhere", false, Scene.holds(hall, 0, 6));
    }

    /** With the sign, the seed -1 would deal 7 2, 4 0, 3 9 and 5 6. */
    private static void withoutSign() {
        Check.part("promise 4: 'z without sign shifted by 16 bits'");
        Bonehall hall = Scene.begun("", 3, 4, 2);
        hall.deal(-1);
        Check.due("02 with player 0", 2, hall.handAt(0, 0));
        Check.due("03 with player 0", 3, hall.handAt(0, 1));
        Check.due("12 with player 1", 5, hall.handAt(1, 0));
        Check.due("33 with player 1", 9, hall.handAt(1, 1));
    }

    private static void theRestIsTheBoneyard() {
        Check.part("promise 11: 'the rest is the boneyard'");
        int[][] sets = {{3, 4, 2, 2}, {3, 3, 3, 1}, {4, 3, 4, 3}, {9, 4, 9, 19}, {9, 2, 2, 51}, {6, 4, 7, 0}};
        for (int[] four : sets) {
            Bonehall hall = Scene.begun("", four[0], four[1], four[2]);
            Check.due("nothing before the deal", 0, hall.yard());
            hall.deal(9);
            Check.due("the rest", four[3], hall.yard());
        }
    }

    private static void emptyBoneyard() {
        Check.part("promise 12: 'or it is not in the boneyard', an empty one");
        Bonehall hall = Scene.begun("", 3, 2, 5);
        hall.deal(3);
        for (int bone = 0; bone < 10; bone++) {
            int any = bone;
            Check.refuses("bone " + bone, UNSUPPORTED, hall, () -> hall.give(0, any));
        }
    }

    /** 33 is laid; the player 1 has no 3, and of the boneyard the last two alone have one. */
    private static void firstIsDrawnFirst() {
        Check.part("promise 22: 'the boneyard, whose first bone is drawn first'");
        Bonehall hall = Scene.begun("d", 3, 2, 2);
        int[] yard = {7, 0, 2, 1};
        hall.deal(Scene.seedForYard(yard, 3, new int[] {8, 9}, new int[] {4, 5}));
        hall.play(9, 0);
        for (int bone : yard) {
            Check.due("drawn", bone, hall.draw());
        }
        Check.due("two are left", 2, hall.yard());
        Check.refuses("'not more than two are in the boneyard'", UNSUPPORTED, hall, hall::draw);
    }

    private static void highestDoubleInAHand() {
        Check.part("promise 4: 'who has the highest double that is in a hand'");
        Bonehall inYard = Scene.dealt("", 3, new int[] {0, 8}, new int[] {4, 6});
        Check.due("11, with 22 and 33 in the boneyard", 1, inYard.turn());
        Bonehall nought = Scene.dealt("", 3, new int[] {6, 8}, new int[] {0, 1});
        Check.due("00 against the most pips", 1, nought.turn());
        Bonehall both = Scene.dealt("", 3, new int[] {0, 4}, new int[] {1, 7});
        Check.due("22 against two doubles", 1, both.turn());
    }

    private static void noDoubleInAHand() {
        Check.part("promise 4: 'by the player 0 if there is none'");
        int[][] hands = {{1, 2}, {6, 8}, {3, 5}};
        Bonehall hall = Scene.begun("", 3, 3, 2);
        Check.due("who begins", 0, hall.deal(Scene.seedFor(3, hands)));
        Check.due("turn", 0, hall.turn());
    }

    private static void firstRoundOfEachMatch() {
        Check.part("promise 4: 'The first round', of each match");
        Bonehall hall = Scene.dealt("r", 3, new int[] {4, 9}, new int[] {0, 1});
        hall.pass();
        hall.pass();
        Check.due("1 pip wins", 1, hall.winner());
        hall.close();
        hall.begin(3, 2, 2);
        Check.due("33 begins, not the winner", 0, hall.deal(Scene.seedFor(3, new int[] {4, 9}, new int[] {0, 1})));
    }

    private static void winnerBegins() {
        Check.part("promise 4: 'each further one by who won the last one'");
        Bonehall hall = Scene.dealt("r", 3, new int[] {4, 9}, new int[] {0, 1}, new int[] {7, 8});
        passAll(hall, 3);
        Check.due("1 pip wins", 1, hall.winner());
        Check.due("1 begins", 1, hall.deal(Scene.seedFor(3, new int[] {4, 9}, new int[] {7, 8}, new int[] {0, 1})));
        Check.due("turn", 1, hall.turn());
        passAll(hall, 3);
        Check.due("2 begins", 2, hall.deal(Scene.seedFor(3, new int[] {4, 9}, new int[] {7, 8}, new int[] {0, 1})));
    }

    /** 00 33 against 02 13 is six pips each. */
    private static void nobodyWonTheSecond() {
        Check.part("promise 4: 'if nobody won, by who began the last one'");
        Bonehall hall = Scene.dealt("r", 3, new int[] {4, 9}, new int[] {0, 1});
        Check.due("33 begins the first", 0, hall.turn());
        passAll(hall, 2);
        for (int round = 2; round <= 4; round++) {
            Check.due("1 begins", 1, hall.deal(Scene.seedFor(3, new int[] {0, 9}, new int[] {2, 6})));
            passAll(hall, 2);
            Check.due("nobody", -1, hall.winner());
            Check.due("rounds", round, hall.rounds());
        }
        Check.due("1 has the points of the first alone", 7, hall.points(1));
        Check.due("0 has none", 0, hall.points(0));
    }

    private static void passAll(Bonehall hall, int players) {
        for (int times = 1; times <= players; times++) {
            int next = hall.pass();
            Check.due("the last pass ends the round", times == players, next == -1);
        }
    }

    private static void fewerPipsOfTwo() {
        Check.part("promise 4: 'for a side of two the one with fewer pips in hand, of like ones the lower number'");
        beginsNext(0, ONE_PIP, TEN_PIPS, FIVE_PIPS, NINE_PIPS);
        beginsNext(2, FIVE_PIPS, TEN_PIPS, ONE_PIP, NINE_PIPS);
        beginsNext(0, THREE_PIPS, TEN_PIPS, THREE_MORE, NINE_PIPS);
        beginsNext(1, TEN_PIPS, ONE_PIP, NINE_PIPS, FIVE_PIPS);
        beginsNext(3, TEN_PIPS, FIVE_PIPS, NINE_PIPS, ONE_PIP);
        beginsNext(1, TEN_PIPS, THREE_PIPS, NINE_PIPS, THREE_MORE);
    }

    private static void beginsNext(int due, int[]... hands) {
        Bonehall hall = Scene.dealt("pr", 3, hands);
        passAll(hall, 4);
        Check.due("side", due % 2, hall.winner());
        Check.due("who begins", due, hall.deal(5));
        Check.due("turn", due, hall.turn());
    }

    private static void turnsGoRound() {
        Check.part("promise 13: 'Players play by rising numbers, round'");
        for (int players = 2; players <= 4; players++) {
            for (int seed = 0; seed < 12; seed++) {
                Bonehall hall = Scene.begun("r", 6, players, 3);
                int first = hall.deal(seed);
                hall.play(hall.handAt(first, 0), 0);
                for (int step = 1; step < players; step++) {
                    Check.due("turn", (first + step) % players, hall.turn());
                    Check.due("turn after the pass", (first + step + 1) % players, hall.pass());
                }
                Check.due("the first one's again", first, hall.turn());
            }
        }
    }

    private static void closeInEachState() {
        Check.part("promise 5: 'how many rounds were dealt'");
        Bonehall hall = new Bonehall();
        Check.due("no match", 0, hall.close());
        hall.begin(3, 2, 2);
        Check.due("no round", 0, hall.close());
        hall.rule('r', true);
        hall.begin(3, 2, 2);
        for (int round = 1; round <= 3; round++) {
            hall.deal(round);
            hall.pass();
            hall.pass();
        }
        hall.deal(4);
        Check.part("promise 5: 'Ends the match, and the round that goes on'");
        Check.due("four, the last one going on", 4, hall.close());
        Check.refuses("the round", STATE, hall, hall::turn);
        Check.refuses("a deal", STATE, hall, () -> hall.deal(1));
        Check.due("again", 0, hall.close());
    }

    private static void giveIsLastOfTheBoneyard() {
        Check.part("promise 12: 'which is then the last of the boneyard'");
        Bonehall hall = Scene.begun("d", 3, 2, 2);
        hall.deal(Scene.seedForYard(new int[] {1, 2, 5}, 3, new int[] {0, 9}, new int[] {4, 7}));
        // The boneyard is 01 02 12 and then 03 13 23 in some row.
        Check.due("00 for 03", 0, hall.give(0, 3));
        Check.due("03 for 13", 3, hall.give(0, 6));
        Check.due("13 for 23", 6, hall.give(0, 8));
        // It is 01 02 12 00 03 13 now.
        hall.play(9, 0);
        for (int due : new int[] {1, 2, 5, 0}) {
            Check.due("drawn", due, hall.draw());
        }
        Check.refuses("03 and 13 stay", UNSUPPORTED, hall, hall::draw);
    }

    private static void giveTakesTheLowestOfBefore() {
        Check.part("promise 12: 'for that of the own ones with the lowest number'");
        Bonehall hall = Scene.dealt("", 3, new int[] {5, 8}, new int[] {1, 9});
        Check.due("12, though 00 is lower", 5, hall.give(0, 0));
        Check.due("00 for 22", 0, hall.give(0, 7));
        Check.due("22", 7, hall.handAt(0, 0));
        Check.due("23", 8, hall.handAt(0, 1));
        Check.due("01 for 13", 1, hall.give(1, 6));
        Check.due("two in hand", 2, hall.inHand(1));
    }

    private static void giveBack() {
        Check.part("promise 12: a bone that went is in the boneyard");
        Bonehall hall = Scene.dealt("", 3, new int[] {5, 8}, new int[] {1, 9});
        Check.due("12 went", 5, hall.give(0, 2));
        Check.refuses("02 is no more in the boneyard", UNSUPPORTED, hall, () -> hall.give(1, 2));
        Check.due("02 for 12", 2, hall.give(0, 5));
        Check.due("the same hand", 5, hall.handAt(0, 0));
        Check.due("sound", true, hall.isSound());
    }

    private static void giveAfterAPass() {
        Check.part("promise 12: 'if something is laid', a pass lays nothing");
        Bonehall hall = Scene.dealt("r", 3, new int[] {5, 8}, new int[] {1, 9});
        hall.pass();
        Check.due("12 went", 5, hall.give(0, 2));
        hall.play(8, 0);
        Check.refuses("23 is laid", UNSUPPORTED, hall, () -> hall.give(1, 5));
    }

    private static void refusedGive() {
        Check.part("promise 12: the exceptions in their order");
        Bonehall hall = Scene.dealt("r", 3, new int[] {5, 8}, new int[] {1, 9});
        hall.play(9, 0);
        Check.refuses("no player, though something is laid", BOUNDS, hall, () -> hall.give(2, 2));
        Check.refuses("no bone, though something is laid", BOUNDS, hall, () -> hall.give(0, 10));
        hall.pass();
        hall.pass();
        Check.refuses("no round, though something is laid", STATE, hall, () -> hall.give(0, 9));
        Check.refuses("no player, though no round", BOUNDS, hall, () -> hall.give(-1, 2));
    }
}
