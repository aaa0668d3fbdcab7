/** Promises 1 to 13: rules, matches, deals, bones, hands and the boneyard. */
public final class MatchTest implements Refusals {
    public static void main(String[] args) {
        newObject();
        rule();
        begin();
        beginAgain();
        deal();
        firstBeginner();
        nextBeginner();
        nextBeginnerOfTwo();
        close();
        boneAndHalf();
        hands();
        give();
        giveGoesLast();
        turn();
        Check.end("MatchTest");
    }

    private static void newObject() {
        Check.part("promise 1");
        Bonehall hall = new Bonehall();
        for (char letter : "psxdftcr".toCharArray()) {
            Check.due("rule " + letter, false, hall.rule(letter, false));
        }
        Check.due("checksum", 7L, hall.checksum());
        Check.due("isSound", true, hall.isSound());
        Check.due("yard", 0, hall.yard());
        Check.due("laid", 0, hall.laid());
        Check.due("ends", 0, hall.ends());
        Check.due("sum", 0, hall.sum());
        Check.due("found", 0, hall.found());
        Check.due("rounds", 0, hall.rounds());
        Check.due("rows", 0, hall.rows());
        Check.due("rings", 0, hall.rings());
        Check.due("wipe", 0, hall.wipe());
        Check.due("close", 0, hall.close());
        Check.refuses("half", BOUNDS, hall, () -> hall.half(0, true));
        Check.refuses("inHand", BOUNDS, hall, () -> hall.inHand(0));
        Check.refuses("points", BOUNDS, hall, () -> hall.points(0));
        Check.refuses("type", BOUNDS, hall, () -> hall.type(0));
        Check.refuses("play", BOUNDS, hall, () -> hall.play(0, 0));
        Check.refuses("draw", STATE, hall, hall::draw);
        Check.refuses("pass", STATE, hall, hall::pass);
        Check.refuses("winner", NONE, hall, hall::winner);
    }

    private static void rule() {
        Check.part("promise 2");
        Bonehall hall = new Bonehall();
        for (char letter : "psxdftcr".toCharArray()) {
            Check.due(letter + " at first", false, hall.rule(letter, true));
            Check.due(letter + " told", true, hall.rule(letter, true));
            Check.due(letter + " told", true, hall.rule(letter, false));
            Check.due(letter + " taken back", false, hall.rule(letter, false));
        }
        hall.rule('f', true);
        Check.due("another letter", false, hall.rule('t', false));
        Check.due("f stays", true, hall.rule('f', true));
        for (char letter : "PSabezq0 \0\uffff".toCharArray()) {
            Check.refuses("no letter " + (int) letter, ILLEGAL, hall, () -> hall.rule(letter, true));
        }
        hall.begin(3, 2, 2);
        Check.refuses("in a match", STATE, hall, () -> hall.rule('f', false));
        Check.refuses("no letter in a match", ILLEGAL, hall, () -> hall.rule('F', false));
        hall.deal(1);
        Check.refuses("in a round", STATE, hall, () -> hall.rule('s', true));
        hall.close();
        Check.due("f still stays", true, hall.rule('f', false));
        Check.due("s never came", false, hall.rule('s', false));
        partnersWithoutMatch();
    }

    private static void partnersWithoutMatch() {
        Bonehall hall = new Bonehall();
        hall.rule('p', true);
        Check.refuses("no sides without a match", BOUNDS, hall, () -> hall.points(0));
        Check.due("a sum without sides", 7L, hall.checksum());
    }

    private static void begin() {
        Check.part("promise 3");
        int[] counts = {10, 15, 21, 28, 36, 45, 55};
        for (int highest = 3; highest <= 9; highest++) {
            Bonehall hall = new Bonehall();
            Check.due("bones to " + highest, counts[highest - 3], hall.begin(highest, 2, 2));
            Check.due("points", 0, hall.points(1));
            Check.due("hand before a deal", 0, hall.inHand(1));
            Check.due("pips before a deal", 0, hall.pips(1));
        }
        Bonehall hall = new Bonehall();
        int[][] outOfRange = {{2, 2, 2}, {10, 2, 2}, {3, 1, 2}, {3, 5, 2}, {3, 2, 1}, {9, 2, 10}, {-1, 9, 9},
            {Integer.MAX_VALUE, 2, 2}, {3, 2, Integer.MIN_VALUE}, {3, Integer.MAX_VALUE, Integer.MAX_VALUE}};
        for (int[] three : outOfRange) {
            Check.refuses("out of range", ILLEGAL, hall, () -> hall.begin(three[0], three[1], three[2]));
        }
        Check.refuses("12 of 10 bones", UNSUPPORTED, hall, () -> hall.begin(3, 4, 3));
        Check.refuses("16 of 15 bones", UNSUPPORTED, hall, () -> hall.begin(4, 4, 4));
        Check.due("10 of 10 bones", 10, hall.begin(3, 2, 5));
        Check.due("36 of 36 bones", 36, hall.begin(7, 4, 9));
        Check.due("15 of 15 bones", 15, hall.begin(4, 3, 5));
        Bonehall partners = new Bonehall();
        partners.rule('p', true);
        Check.refuses("two partners", UNSUPPORTED, partners, () -> partners.begin(6, 2, 7));
        Check.refuses("three partners", UNSUPPORTED, partners, () -> partners.begin(6, 3, 7));
        Check.refuses("partners out of range", ILLEGAL, partners, () -> partners.begin(6, 5, 7));
        Check.due("four partners", 28, partners.begin(6, 4, 7));
        Check.refuses("a third side", BOUNDS, partners, () -> partners.points(2));
    }

    private static void beginAgain() {
        Bonehall hall = new Bonehall();
        hall.begin(3, 2, 2);
        hall.type(0);
        Check.due("again before a round", 15, hall.begin(4, 3, 2));
        Check.due("typed no more", 0, hall.rows());
        Check.due("bone of the new set", 5, hall.bone(1, 1));
        hall.deal(3);
        Check.refuses("out of range in a round", ILLEGAL, hall, () -> hall.begin(2, 2, 2));
        Check.refuses("too few in a round", UNSUPPORTED, hall, () -> hall.begin(3, 4, 3));
        Check.refuses("in a round", STATE, hall, () -> hall.begin(3, 2, 2));
        hall.close();
        Check.due("after the end", 10, hall.begin(3, 2, 2));
    }

    private static void deal() {
        Check.part("promise 4");
        Bonehall none = new Bonehall();
        Check.refuses("no match", STATE, none, () -> none.deal(1));
        int[] seeds = {0, 1, -1, 12345, Integer.MAX_VALUE, Integer.MIN_VALUE, 987654321, -77};
        for (int seed : seeds) {
            Bonehall hall = new Bonehall();
            hall.begin(6, 3, 7);
            hall.deal(seed);
            int[] row = Scene.shuffled(28, seed);
            for (int place = 0; place < 21; place++) {
                Check.due("place " + place, true, Scene.holds(hall, place / 7, row[place]));
            }
            Check.due("yard", 7, hall.yard());
            Check.due("hand", 7, hall.inHand(2));
            Check.refuses("in a round", STATE, hall, () -> hall.deal(2));
        }
        // The scenes have a shuffle of their own, so two rows are written out: 3 8 7 1 6 9 .. and 2 3 5 9 4 1 ..
        int[][] seedZero = {{3, 7, 8}, {1, 6, 9}};
        int[][] seedMinusOne = {{2, 3, 5}, {1, 4, 9}};
        for (int place = 0; place < 6; place++) {
            Check.due("seed 0", seedZero[place / 3][place % 3], dealtThree(0).handAt(place / 3, place % 3));
            Check.due("seed -1", seedMinusOne[place / 3][place % 3], dealtThree(-1).handAt(place / 3, place % 3));
        }
        Bonehall whole = Scene.begun("", 3, 2, 5);
        whole.deal(0);
        Check.due("no boneyard", 0, whole.yard());
    }

    private static Bonehall dealtThree(int seed) {
        Bonehall hall = Scene.begun("", 3, 2, 3);
        hall.deal(seed);
        return hall;
    }

    private static void firstBeginner() {
        Check.due("33 begins", 1, Scene.dealt("", 3, new int[] {0, 1}, new int[] {2, 9}).turn());
        Check.due("11 before 00", 0, Scene.dealt("", 3, new int[] {1, 4}, new int[] {0, 2}).turn());
        Check.due("00 alone", 1, Scene.dealt("", 3, new int[] {1, 2}, new int[] {0, 3}).turn());
        Check.due("no double", 0, Scene.dealt("", 3, new int[] {1, 2}, new int[] {3, 5}).turn());
        Check.due("the third", 2, Scene.dealt("", 3, new int[] {0, 1}, new int[] {2, 4}, new int[] {3, 7}).turn());
        Check.due("the fourth", 3,
                Scene.dealt("p", 3, new int[] {0, 1}, new int[] {2, 4}, new int[] {3, 7}, new int[] {5, 9}).turn());
    }

    private static void nextBeginner() {
        Bonehall won = Scene.dealt("", 3, new int[] {2, 3}, new int[] {1, 4});
        won.play(4, 0);
        won.pass();
        Check.due("the win", 5, won.play(1, 0));
        Check.due("the winner begins, though 33 is elsewhere", 1,
                won.deal(Scene.seedFor(3, new int[] {1, 9}, new int[] {2, 3})));

        Bonehall even = Scene.dealt("", 3, new int[] {1, 5}, new int[] {7, 9});
        even.play(9, 0);
        even.pass();
        even.pass();
        Check.due("nobody won", -1, even.winner());
        Check.due("the same begins again", 1, even.deal(Scene.seedFor(3, new int[] {4, 9}, new int[] {2, 3})));
        Check.due("second round", 2, even.rounds());

        Bonehall blocked = Scene.dealt("", 3, new int[] {2, 4}, new int[] {7, 9});
        blocked.play(9, 0);
        blocked.pass();
        blocked.pass();
        Check.due("four pips each", -1, blocked.winner());
        Bonehall lower = Scene.dealt("", 3, new int[] {0, 1}, new int[] {7, 9});
        lower.play(9, 0);
        lower.pass();
        lower.pass();
        Check.due("fewest pips", 0, lower.winner());
        Check.due("who won the block begins", 0, lower.deal(5));
    }

    /** In a set to four, 44 blocks all if 04, 14, 24 and 34 are in the boneyard. */
    private static void nextBeginnerOfTwo() {
        Bonehall partner = Scene.dealtBy(3775537, "p", 4,
                new int[] {12, 14}, new int[] {7, 10}, new int[] {0, 1}, new int[] {3, 9});
        block(partner, 0);
        Check.due("7 pips against 16", 9, partner.points(0));
        Check.due("side 0", 0, partner.winner());
        Check.due("the partner has fewer pips", 2, partner.deal(1));

        Bonehall like = Scene.dealtBy(300555, "p", 4,
                new int[] {2, 14}, new int[] {10, 12}, new int[] {0, 5}, new int[] {7, 9});
        block(like, 0);
        Check.due("side 0", 0, like.winner());
        Check.due("like pips, the lower number", 0, like.deal(1));

        Bonehall odd = Scene.dealtBy(26271604, "p", 4,
                new int[] {7, 10}, new int[] {0, 1}, new int[] {3, 9}, new int[] {12, 14});
        block(odd, 3);
        Check.due("side 1", 1, odd.winner());
        Check.due("9 more", 9, odd.points(1));
        Check.due("player 1 has fewer pips", 1, odd.deal(1));
    }

    private static void block(Bonehall hall, int beginner) {
        Check.due("beginner", beginner, hall.turn());
        hall.play(14, 0);
        for (int times = 1; times <= 3; times++) {
            Check.due("a pass", (beginner + times + 1) % 4, hall.pass());
        }
        Check.due("the last pass", -1, hall.pass());
    }

    private static void close() {
        Check.part("promise 5");
        Bonehall hall = Scene.dealt("r", 3, new int[] {2, 3}, new int[] {1, 4});
        hall.type(3);
        hall.play(4, 0);
        hall.pass();
        hall.play(1, 0);
        hall.deal(4);
        hall.play(hall.handAt(1, 0), 0);
        Check.due("rounds dealt", 2, hall.close());
        Check.due("rounds", 0, hall.rounds());
        Check.due("yard", 0, hall.yard());
        Check.due("laid", 0, hall.laid());
        Check.due("ends", 0, hall.ends());
        Check.due("sum", 0, hall.sum());
        Check.due("found", 0, hall.found());
        Check.due("rows", 0, hall.rows());
        Check.due("wipe", 0, hall.wipe());
        Check.due("checksum", 7L, hall.checksum());
        Check.refuses("bones", BOUNDS, hall, () -> hall.half(0, false));
        Check.refuses("players", BOUNDS, hall, () -> hall.inHand(0));
        Check.refuses("points", BOUNDS, hall, () -> hall.points(0));
        Check.refuses("the round", STATE, hall, hall::turn);
        Check.refuses("the match", STATE, hall, () -> hall.deal(1));
        Check.refuses("the winner", NONE, hall, hall::winner);
        Check.due("twice", 0, hall.close());
        Check.due("rules stay", true, hall.rule('r', true));
        hall.begin(3, 2, 2);
        Check.due("a match without a round", 0, hall.close());
    }

    private static void boneAndHalf() {
        Bonehall none = new Bonehall();
        Check.part("promise 6");
        Check.refuses("no match", STATE, none, () -> none.bone(0, 0));
        Check.refuses("no match, no bone", STATE, none, () -> none.bone(-1, 0));
        for (int highest = 3; highest <= 9; highest++) {
            int top = highest;
            Bonehall hall = Scene.begun("", highest, 2, 2);
            int number = 0;
            for (int low = 0; low <= highest; low++) {
                for (int high = low; high <= highest; high++) {
                    Check.part("promise 6");
                    Check.due("bone", number, hall.bone(low, high));
                    Check.due("bone turned", number, hall.bone(high, low));
                    Check.part("promise 7");
                    Check.due("lesser half", low, hall.half(number, false));
                    Check.due("greater half", high, hall.half(number, true));
                    number++;
                }
            }
            int bones = number;
            Check.refuses("bone " + bones, BOUNDS, hall, () -> hall.half(bones, true));
            Check.refuses("bone -1", BOUNDS, hall, () -> hall.half(-1, false));
            Check.part("promise 6");
            Check.refuses("a half too high", ILLEGAL, hall, () -> hall.bone(0, top + 1));
            Check.refuses("one half too high", ILLEGAL, hall, () -> hall.bone(top + 1, top));
            Check.refuses("a half below 0", ILLEGAL, hall, () -> hall.bone(1, -1));
            Check.refuses("one half below 0", ILLEGAL, hall, () -> hall.bone(Integer.MIN_VALUE, 1));
        }
    }

    private static void hands() {
        Bonehall hall = Scene.dealt("", 3, new int[] {1, 6, 9}, new int[] {0, 2, 8});
        Check.part("promise 8");
        Check.due("inHand", 3, hall.inHand(0));
        Check.refuses("player 2", BOUNDS, hall, () -> hall.inHand(2));
        Check.refuses("player -1", BOUNDS, hall, () -> hall.inHand(-1));
        Check.part("promise 9");
        int[] own = {1, 6, 9};
        for (int index = 0; index < 3; index++) {
            Check.due("handAt", own[index], hall.handAt(0, index));
        }
        Check.refuses("index 3", NONE, hall, () -> hall.handAt(0, 3));
        Check.refuses("index -1", NONE, hall, () -> hall.handAt(0, -1));
        Check.refuses("index -1 of player 2", BOUNDS, hall, () -> hall.handAt(2, -1));
        Check.refuses("player -1", BOUNDS, hall, () -> hall.handAt(-1, 0));
        Check.part("promise 10");
        Check.due("pips of 01 13 33", 11, hall.pips(0));
        Check.due("pips of 00 02 23", 7, hall.pips(1));
        Check.refuses("player 2", BOUNDS, hall, () -> hall.pips(2));
        Check.part("promise 11");
        Check.due("yard", 4, hall.yard());
        hall.play(6, 0);
        Check.due("yard after a play", 4, hall.yard());
        Check.part("promise 8");
        Check.due("inHand after a play", 2, hall.inHand(0));
        Check.part("promise 9");
        Check.due("handAt after a play", 9, hall.handAt(0, 1));
        Check.part("promise 10");
        Check.due("pips after a play", 7, hall.pips(0));
    }

    private static void give() {
        Check.part("promise 12");
        Bonehall hall = Scene.begun("", 3, 2, 2);
        Check.refuses("no player before a round", BOUNDS, hall, () -> hall.give(2, 0));
        Check.refuses("before a round", STATE, hall, () -> hall.give(0, 0));
        hall.deal(Scene.seedFor(3, new int[] {0, 5}, new int[] {6, 8}));
        Check.refuses("player 2", BOUNDS, hall, () -> hall.give(2, 9));
        Check.refuses("player -1", BOUNDS, hall, () -> hall.give(-1, 9));
        Check.refuses("bone 10", BOUNDS, hall, () -> hall.give(0, 10));
        Check.refuses("bone -1", BOUNDS, hall, () -> hall.give(0, -1));
        Check.refuses("the own bone", UNSUPPORTED, hall, () -> hall.give(0, 5));
        Check.refuses("the other's bone", UNSUPPORTED, hall, () -> hall.give(0, 6));
        Check.due("00 goes", 0, hall.give(0, 9));
        Check.due("the turn stays", 0, hall.turn());
        Check.due("12 goes", 5, hall.give(0, 4));
        Check.due("11", 4, hall.handAt(0, 0));
        Check.due("33", 9, hall.handAt(0, 1));
        Check.due("yard", 6, hall.yard());
        Check.due("13 goes", 6, hall.give(1, 0));
        Check.due("00 came back", 0, hall.handAt(1, 0));
        hall.play(9, 0);
        Check.refuses("as something is laid", UNSUPPORTED, hall, () -> hall.give(0, 1));
        hall.close();
        hall.begin(3, 2, 2);
        Check.refuses("in the next match", STATE, hall, () -> hall.give(0, 1));
    }

    private static void giveGoesLast() {
        int[][] hands = {{8, 9}, {4, 5}};
        int[] row = Scene.shuffled(10, Scene.seedFor(3, hands));
        Bonehall hall = Scene.dealt("d", 3, hands);
        int given = row[5];
        Check.due("23 goes", 8, hall.give(0, given));
        hall.play(9, 0);
        // The yard is row[4], row[6] to row[9], and 23 at last: player 1 draws until a bone with a 3 comes.
        int[] order = {row[4], row[6], row[7], row[8], row[9], 8};
        for (int drawn = 0; drawn < 4 && !hall.canPlay(1); drawn++) {
            Check.due("draw " + drawn, order[drawn], hall.draw());
        }
    }

    private static void turn() {
        Check.part("promise 13");
        Bonehall hall = Scene.begun("r", 3, 3, 2);
        Check.refuses("before a round", STATE, hall, hall::turn);
        hall.deal(Scene.seedFor(3, new int[] {0, 1}, new int[] {2, 4}, new int[] {3, 7}));
        Check.due("who begins", 2, hall.turn());
        hall.play(7, 0);
        Check.due("round to 0", 0, hall.turn());
        hall.pass();
        Check.due("then 1", 1, hall.turn());
        hall.play(2, 1);
        Check.due("then 2", 2, hall.turn());
        hall.pass();
        hall.pass();
        hall.pass();
        Check.refuses("after the round", STATE, hall, hall::turn);
    }
}
