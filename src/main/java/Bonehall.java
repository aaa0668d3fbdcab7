import java.util.Arrays;
import java.util.NoSuchElementException;

/** A hall of dominoes: one match at a time, by the rules that were told before it. */
public final class Bonehall {

    private static final int LEAST_TOP = 3;
    private static final int MOST_TOP = 9;
    private static final int LEAST_PLAYERS = 2;
    private static final int MOST_PLAYERS = 4;
    private static final int LEAST_HAND = 2;
    private static final int MOST_HAND = 9;
    private static final int MOST_BONES = 55;
    private static final int MOST_TYPED = 9;
    private static final int MOST_SOLVED = 8;
    private static final int MOST_OTHERS = 3;
    private static final int YARD_KEEPS = 2;

    /** Ten spinners open at most 22 ends: four of the first bone, two more by each further one. */
    private static final int MOST_ENDS = 24;

    /** Three others hold at most 54 bones, so (18 + 1) times itself and itself again. */
    private static final int MOST_STATES = 6859;

    private static final int IN_YARD = 0;
    private static final int IS_LAID = 9;
    private static final int NO_ROUND_OVER = -2;
    private static final int FIND_POINTS = 20;
    private static final int CLOSING_POINTS = 25;

    /** The letter at the place i tells the rule of the bit i. */
    private static final String LETTERS = "psxdftcr";
    private static final int PARTNERS = 1;
    private static final int FIRST_SPINS = 2;
    private static final int ALL_SPIN = 4;
    private static final int DRAWS = 8;
    private static final int FIVES = 16;
    private static final int THREES = 32;
    private static final int CLOSING = 64;
    private static final int FREE_PASS = 128;

    private final BoneSet set = new BoneSet();
    private final Places places = new Places();
    private final Layout layout = new Layout();
    private final Knowledge knowledge = new Knowledge();
    private final DealCounter counter = new DealCounter();
    private final Ending ending = new Ending();
    private final Typed typed = new Typed();
    private final int[] scores = new int[MOST_PLAYERS];
    private int rules = 0;
    private int players = 0;
    private int handSize = 0;
    private int dealt = 0;
    private boolean isGoing = false;
    private int mover = 0;
    private int starter = 0;
    private int passes = 0;
    private int lastWinner = NO_ROUND_OVER;
    private int finds = 0;

    public Bonehall() {
    }

    public boolean rule(char letter, boolean is) throws IllegalArgumentException, IllegalStateException {
        int index = LETTERS.indexOf(letter);
        if (index < 0) {
            throw new IllegalArgumentException("no such rule");
        }
        if (set.count > 0) {
            throw new IllegalStateException("a match was begun");
        }
        int bit = 1 << index;
        boolean held = holds(bit);
        rules = is ? rules | bit : rules & ~bit;
        return held;
    }

    public int begin(int highest, int players, int hand)
            throws IllegalArgumentException, UnsupportedOperationException, IllegalStateException {
        if (!isWithin(highest, LEAST_TOP, MOST_TOP) || !isWithin(players, LEAST_PLAYERS, MOST_PLAYERS)
                || !isWithin(hand, LEAST_HAND, MOST_HAND)) {
            throw new IllegalArgumentException("out of range");
        }
        int bones = (highest + 1) * (highest + 2) / 2;
        if (players * hand > bones || (holds(PARTNERS) && players != MOST_PLAYERS)) {
            throw new UnsupportedOperationException("too few bones, or no partners");
        }
        if (dealt > 0) {
            throw new IllegalStateException("a round was dealt");
        }
        clearMatch();
        set.take(highest);
        this.players = players;
        handSize = hand;
        return set.count;
    }

    public int deal(int seed) throws IllegalStateException {
        if (set.count == 0 || isGoing) {
            throw new IllegalStateException("no match, or a round goes on");
        }
        // The hands of the last round tell who begins, so they are looked at before they go.
        int next = dealt > 0 ? nextStarter() : 0;
        places.shuffle(set.count, seed);
        places.share(players, handSize);
        layout.clear();
        knowledge.clear();
        starter = dealt > 0 ? next : ownerOfHighestDouble();
        mover = starter;
        passes = 0;
        isGoing = true;
        dealt++;
        return mover;
    }

    public int close() {
        int before = dealt;
        clearMatch();
        return before;
    }

    public int bone(int one, int other) throws IllegalStateException, IllegalArgumentException {
        if (set.count == 0) {
            throw new IllegalStateException("no match");
        }
        if (!set.hasValue(one) || !set.hasValue(other)) {
            throw new IllegalArgumentException("no such bone");
        }
        return set.numberOf(one, other);
    }

    public int half(int bone, boolean isGreater) throws IndexOutOfBoundsException {
        mustBeBone(bone);
        return isGreater ? set.high(bone) : set.low(bone);
    }

    public int inHand(int player) throws IndexOutOfBoundsException {
        mustBePlayer(player);
        return handCount(player);
    }

    public int handAt(int player, int index) throws IndexOutOfBoundsException, NoSuchElementException {
        mustBePlayer(player);
        int bone = index < 0 ? -1 : boneOfHand(player, index);
        if (bone < 0) {
            throw new NoSuchElementException("no such bone in hand");
        }
        return bone;
    }

    public int pips(int player) throws IndexOutOfBoundsException {
        mustBePlayer(player);
        return handPips(player);
    }

    public int yard() {
        return places.yardCount;
    }

    public int give(int player, int bone)
            throws IndexOutOfBoundsException, IllegalStateException, UnsupportedOperationException {
        mustBePlayer(player);
        mustBeBone(bone);
        mustGoOn();
        int lowest = boneOfHand(player, 0);
        if (layout.count > 0 || places.of(bone) != IN_YARD || lowest < 0) {
            throw new UnsupportedOperationException("something is laid, or the bone is not in the boneyard");
        }
        places.takeFromYard(bone, player);
        places.putLast(lowest);
        return lowest;
    }

    public int turn() throws IllegalStateException {
        mustGoOn();
        return mover;
    }

    public int laid() {
        return layout.count;
    }

    public int laidAt(int index) throws NoSuchElementException {
        if (index < 0 || index >= layout.count) {
            throw new NoSuchElementException("no such laid bone");
        }
        return layout.boneAt(index);
    }

    public int ends() {
        return layout.endCount;
    }

    public int endAt(int end) throws IndexOutOfBoundsException {
        mustBeEnd(end);
        return layout.valueOf(end);
    }

    public int sum() {
        return layout.sumOfEnds(set);
    }

    public boolean fits(int bone, int end) throws IndexOutOfBoundsException {
        mustBeBone(bone);
        mustBeEnd(end);
        return set.shows(bone, layout.valueOf(end));
    }

    public boolean canPlay(int player) throws IndexOutOfBoundsException, IllegalStateException {
        mustBePlayer(player);
        mustGoOn();
        return hasPlay(player);
    }

    public int play(int bone, int end)
            throws IndexOutOfBoundsException, IllegalStateException, NoSuchElementException,
            UnsupportedOperationException {
        mustBeBone(bone);
        mustGoOn();
        if (places.of(bone) != mover + 1) {
            throw new NoSuchElementException("not in the player's hand");
        }
        if (layout.count > 0 && !(layout.hasEnd(end) && set.shows(bone, layout.valueOf(end)))) {
            throw new UnsupportedOperationException("no such end, or it does not fit");
        }
        boolean closes = closesBothWays(bone);
        findFalsePass(bone);
        layBone(bone, end);
        int gain = pointsOfEnds();
        if (handCount(mover) == 0) {
            gain += pipsOfOtherSides(sideOf(mover)) + (closes ? CLOSING_POINTS : 0);
            endRound(sideOf(mover));
        }
        score(sideOf(mover), gain);
        mover = playerAfter(mover);
        return gain;
    }

    public int draw() throws IllegalStateException, UnsupportedOperationException {
        mustGoOn();
        if (!mayDraw()) {
            throw new UnsupportedOperationException("nothing to be drawn");
        }
        int bone = places.firstOfYard();
        places.takeFromYard(bone, mover);
        knowledge.forget(mover);
        return bone;
    }

    public int pass() throws IllegalStateException, UnsupportedOperationException {
        mustGoOn();
        boolean could = hasPlay(mover);
        if ((could && !holds(FREE_PASS)) || mayDraw()) {
            throw new UnsupportedOperationException("can play, or could draw");
        }
        knowledge.learn(mover, layout.openValues(), could && layout.count > 0);
        passes++;
        if (passes >= players) {
            endBlocked();
            return -1;
        }
        mover = playerAfter(mover);
        return mover;
    }

    public boolean isBlocked() throws IllegalStateException, UnsupportedOperationException {
        mustGoOn();
        if (layout.count == 0) {
            throw new UnsupportedOperationException("nothing is laid");
        }
        int open = layout.openValues();
        for (int bone = 0; bone < set.count; bone++) {
            if (places.of(bone) != IS_LAID && (set.values(bone) & open) != 0) {
                return false;
            }
        }
        return true;
    }

    public int winner() throws NoSuchElementException {
        if (lastWinner == NO_ROUND_OVER) {
            throw new NoSuchElementException("no round is over");
        }
        return lastWinner;
    }

    public int points(int side) throws IndexOutOfBoundsException {
        if (side < 0 || side >= sideCount() || side >= scores.length) {
            throw new IndexOutOfBoundsException("no such side");
        }
        return scores[side];
    }

    public boolean isVoid(int player, int value) throws IndexOutOfBoundsException, IllegalArgumentException {
        mustBePlayer(player);
        if (!set.hasValue(value)) {
            throw new IllegalArgumentException("no such value");
        }
        return (knowledge.lacksOf(player) >> value & 1) != 0;
    }

    public int found() {
        return finds;
    }

    public long deals(int player) throws IndexOutOfBoundsException, IllegalStateException {
        mustBePlayer(player);
        mustGoOn();
        return countDeals(player, -1, -1);
    }

    public double chance(int player, int other, int bone)
            throws IndexOutOfBoundsException, IllegalArgumentException, IllegalStateException,
            UnsupportedOperationException, ArithmeticException {
        mustBePlayer(player);
        mustBePlayer(other);
        mustBeBone(bone);
        if (player == other) {
            throw new IllegalArgumentException("both players are the same");
        }
        mustGoOn();
        if (places.of(bone) == IS_LAID || places.of(bone) == player + 1) {
            throw new UnsupportedOperationException("the bone is seen");
        }
        long all = countDeals(player, -1, -1);
        if (all == 0) {
            throw new ArithmeticException("no deals");
        }
        return (double) countDeals(player, other, bone) / (double) all;
    }

    public int solve() throws IllegalStateException, UnsupportedOperationException {
        mustGoOn();
        mustBeSolvable();
        readEnding();
        int worth = worth(ending, ending.allLeft(), layout.valueOf(0), layout.valueOf(1), mover, 0);
        return (mover & 1) == 0 ? worth : -worth;
    }

    public int bestBone() throws IllegalStateException, UnsupportedOperationException {
        mustGoOn();
        mustBeSolvable();
        readEnding();
        int best = bestPlay(ending, layout.valueOf(0), layout.valueOf(1), mover);
        return best < 0 ? -1 : ending.numberOf(best >> 1);
    }

    public int bestEnd() throws IllegalStateException, UnsupportedOperationException {
        mustGoOn();
        mustBeSolvable();
        readEnding();
        int best = bestPlay(ending, layout.valueOf(0), layout.valueOf(1), mover);
        return best < 0 ? -1 : best & 1;
    }

    public int type(int bone) throws IndexOutOfBoundsException, UnsupportedOperationException, IllegalStateException {
        mustBeBone(bone);
        if (typed.has(bone)) {
            throw new UnsupportedOperationException("it is typed");
        }
        if (typed.count >= MOST_TYPED) {
            throw new IllegalStateException("there are nine");
        }
        typed.add(bone, set.low(bone), set.high(bone));
        return typed.count;
    }

    public int wipe() {
        int before = typed.count;
        typed.count = 0;
        return before;
    }

    public int rows() {
        return typed.count == 0 ? 0 : chains(typed, typed.allLeft(), -1, -1, 0);
    }

    public int rings() {
        int found = 0;
        for (int value = 0; typed.count > 0 && value <= set.top; value++) {
            found += chains(typed, typed.allLeft(), value, value, 0);
        }
        return found;
    }

    public int trick(int trump, int one, int two, int three, int four)
            throws IndexOutOfBoundsException, IllegalArgumentException {
        mustBeBone(one);
        mustBeBone(two);
        mustBeBone(three);
        mustBeBone(four);
        boolean isTwice = one == two || one == three || one == four || two == three || two == four || three == four;
        if ((trump != -1 && !set.hasValue(trump)) || isTwice) {
            throw new IllegalArgumentException("no such trump, or a bone twice");
        }
        int kind = set.shows(one, trump) ? trump : set.high(one);
        int best = 0;
        int strength = strengthOf(one, trump, kind);
        for (int place = 1; place < 4; place++) {
            int bone = place == 1 ? two : place == 2 ? three : four;
            int its = strengthOf(bone, trump, kind);
            if (its > strength) {
                best = place;
                strength = its;
            }
        }
        return best;
    }

    public int rounds() {
        return dealt;
    }

    public float laidShare() throws ArithmeticException {
        if (set.count == 0) {
            throw new ArithmeticException("no match");
        }
        return (float) layout.count / (float) set.count;
    }

    public double meanPips() throws ArithmeticException {
        if (dealt == 0 || players == 0) {
            throw new ArithmeticException("no round was dealt");
        }
        int all = 0;
        for (int player = 0; player < players; player++) {
            all += handPips(player);
        }
        return (double) all / (double) players;
    }

    public long checksum() {
        long sum = 7;
        for (int bone = 0; bone < set.count; bone++) {
            sum = sum * 31 + places.of(bone);
        }
        for (int end = 0; end < layout.endCount; end++) {
            sum = sum * 31 + layout.valueOf(end);
        }
        for (int side = 0; side < sideCount() && side < scores.length; side++) {
            sum = sum * 31 + scores[side];
        }
        return sum;
    }

    public boolean isSound() {
        if (dealt == 0) {
            return layout.count == 0 && layout.endCount == 0 && places.yardCount == 0;
        }
        return places.areSound(set.count, players, layout) && layout.hangsTogether(set)
                && layout.hasJustFreeEnds(set) && isOneOfTheDeals();
    }

    private static boolean isWithin(int number, int least, int most) {
        return number >= least && number <= most;
    }

    private void mustBePlayer(int player) {
        if (player < 0 || player >= players) {
            throw new IndexOutOfBoundsException("no such player");
        }
    }

    private void mustBeBone(int bone) {
        if (!set.has(bone)) {
            throw new IndexOutOfBoundsException("no such bone");
        }
    }

    private void mustBeEnd(int end) {
        if (!layout.hasEnd(end)) {
            throw new IndexOutOfBoundsException("no such open end");
        }
    }

    private void mustGoOn() {
        if (!isGoing) {
            throw new IllegalStateException("no round goes on");
        }
    }

    private void mustBeSolvable() {
        if (!isSolvable()) {
            throw new UnsupportedOperationException("no ending to be solved");
        }
    }

    private boolean holds(int rule) {
        return (rules & rule) != 0;
    }

    private int sideCount() {
        return players > 0 && holds(PARTNERS) ? 2 : players;
    }

    private int sideOf(int player) {
        return holds(PARTNERS) ? player & 1 : player;
    }

    private int playerAfter(int player) {
        return player + 1 < players ? player + 1 : 0;
    }

    private void clearMatch() {
        set.takeAway();
        places.clear();
        layout.clear();
        knowledge.clear();
        typed.count = 0;
        Arrays.fill(scores, 0);
        players = 0;
        handSize = 0;
        dealt = 0;
        isGoing = false;
        mover = 0;
        starter = 0;
        passes = 0;
        lastWinner = NO_ROUND_OVER;
        finds = 0;
    }

    private int handCount(int player) {
        int count = 0;
        for (int bone = 0; bone < set.count; bone++) {
            if (places.of(bone) == player + 1) {
                count++;
            }
        }
        return count;
    }

    private int handPips(int player) {
        int pips = 0;
        for (int bone = 0; bone < set.count; bone++) {
            if (places.of(bone) == player + 1) {
                pips += set.weight(bone);
            }
        }
        return pips;
    }

    private int handValues(int player) {
        int values = 0;
        for (int bone = 0; bone < set.count; bone++) {
            if (places.of(bone) == player + 1) {
                values |= set.values(bone);
            }
        }
        return values;
    }

    private int boneOfHand(int player, int index) {
        int before = 0;
        for (int bone = 0; bone < set.count; bone++) {
            if (places.of(bone) == player + 1) {
                if (before == index) {
                    return bone;
                }
                before++;
            }
        }
        return -1;
    }

    private int sidePips(int side) {
        int pips = 0;
        for (int player = 0; player < players; player++) {
            if (sideOf(player) == side) {
                pips += handPips(player);
            }
        }
        return pips;
    }

    private int pipsOfOtherSides(int side) {
        int pips = 0;
        for (int other = 0; other < sideCount(); other++) {
            if (other != side) {
                pips += sidePips(other);
            }
        }
        return pips;
    }

    private int ownerOfHighestDouble() {
        for (int value = set.top; value >= 0; value--) {
            int place = places.of(set.numberOf(value, value));
            if (place != IN_YARD) {
                return place - 1;
            }
        }
        return 0;
    }

    private int nextStarter() {
        if (lastWinner < 0) {
            return starter;
        }
        if (!holds(PARTNERS)) {
            return lastWinner;
        }
        int partner = lastWinner + 2;
        return handPips(partner) < handPips(lastWinner) ? partner : lastWinner;
    }

    private boolean hasPlay(int player) {
        return layout.count == 0 || (handValues(player) & layout.openValues()) != 0;
    }

    private boolean mayDraw() {
        return holds(DRAWS) && places.yardCount > YARD_KEEPS && !hasPlay(mover);
    }

    /** Has to be asked before the bone is laid, as it changes the ends. */
    private boolean closesBothWays(int bone) {
        int open = layout.openValues();
        return holds(CLOSING) && !set.isDouble(bone) && (set.values(bone) & ~open) == 0;
    }

    private void findFalsePass(int bone) {
        if ((knowledge.lacksOf(mover) & set.values(bone)) == 0) {
            return;
        }
        finds++;
        knowledge.forget(mover);
        for (int side = 0; side < sideCount(); side++) {
            if (side != sideOf(mover)) {
                score(side, FIND_POINTS);
            }
        }
    }

    private void layBone(int bone, int end) {
        boolean spins = set.isDouble(bone)
                && (holds(ALL_SPIN) || (holds(FIRST_SPINS) && !layout.hasDouble(set)));
        layout.lay(bone, set, end, spins);
        places.putOut(bone);
        passes = 0;
    }

    private int pointsOfEnds() {
        int sum = layout.sumOfEnds(set);
        int gain = 0;
        if (holds(FIVES) && sum % 5 == 0) {
            gain += sum;
        }
        if (holds(THREES) && sum % 3 == 0) {
            gain += sum;
        }
        return gain;
    }

    private void score(int side, int gain) {
        if (side >= 0 && side < scores.length) {
            scores[side] += gain;
        }
    }

    private void endRound(int side) {
        isGoing = false;
        lastWinner = side;
    }

    private void endBlocked() {
        int best = -1;
        int fewest = 0;
        boolean isAlone = false;
        for (int side = 0; side < sideCount(); side++) {
            int pips = sidePips(side);
            if (side == 0 || pips < fewest) {
                best = side;
                fewest = pips;
                isAlone = true;
            } else if (pips == fewest) {
                isAlone = false;
            }
        }
        if (isAlone) {
            score(best, Math.max(0, pipsOfOtherSides(best) - fewest));
        }
        endRound(isAlone ? best : -1);
    }

    /** How many deals the player's eye has; those alone in which the other one has the bone, if the bone is no -1. */
    private long countDeals(int player, int other, int bone) {
        if (bone >= 0 && (knowledge.lacksOf(other) & set.values(bone)) != 0) {
            return 0;
        }
        counter.restart();
        for (int one = 0; one < players; one++) {
            if (one != player) {
                counter.addOther(handCount(one) - (bone >= 0 && one == other ? 1 : 0), knowledge.lacksOf(one));
            }
        }
        counter.openStates();
        for (int unseen = 0; unseen < set.count; unseen++) {
            int place = places.of(unseen);
            if (unseen != bone && place != IS_LAID && place != player + 1) {
                counter.addBone(set.values(unseen));
            }
        }
        return counter.total();
    }

    private boolean isSolvable() {
        int barred = FIRST_SPINS | ALL_SPIN | DRAWS | FIVES | THREES | CLOSING | FREE_PASS;
        if (sideCount() != 2 || holds(barred) || layout.count == 0) {
            return false;
        }
        return set.count - layout.count - places.yardCount <= MOST_SOLVED;
    }

    private void readEnding() {
        ending.restart(players);
        for (int bone = 0; bone < set.count; bone++) {
            int place = places.of(bone);
            if (place != IN_YARD && place != IS_LAID) {
                ending.add(bone, set.low(bone), set.high(bone), place - 1);
            }
        }
    }

    /** What the side 0 gets, less what the side 1 gets, if the player is next and both sides play their best. */
    private static int worth(Ending ending, int left, int one, int two, int player, int depth) {
        int mover = ending.nextWhoCan(left, one, two, player);
        if (mover < 0 || depth > MOST_SOLVED) {
            return ending.pipsOfSide(left, 1) - ending.pipsOfSide(left, 0);
        }
        boolean isFirstSide = (mover & 1) == 0;
        boolean isKnown = false;
        int best = 0;
        for (int index = 0; index < ending.count; index++) {
            for (int end = 0; end < 2 && ending.canMove(left, index, mover); end++) {
                int at = end == 0 ? one : two;
                if (ending.shows(index, at)) {
                    int got = worthAfter(ending, left, index, at, end == 0 ? two : one, depth + 1);
                    if (!isKnown || (isFirstSide ? got > best : got < best)) {
                        best = got;
                        isKnown = true;
                    }
                }
            }
        }
        return best;
    }

    /** The same, after the bone of this index was played at one value, so that the other one is kept. */
    private static int worthAfter(Ending ending, int left, int index, int at, int kept, int depth) {
        int after = left & ~(1 << index);
        int player = ending.ownerOf(index);
        if (ending.isOut(after, player)) {
            return ending.worthOfWin(after, player);
        }
        return worth(ending, after, kept, ending.otherHalf(index, at), ending.playerAfter(player), depth);
    }

    /** Twice the index of the best bone, and one more for the end 1; -1 if the player can play none. */
    private static int bestPlay(Ending ending, int one, int two, int player) {
        int left = ending.allLeft();
        int best = -1;
        int most = 0;
        for (int index = 0; index < ending.count; index++) {
            for (int end = 0; end < 2 && ending.canMove(left, index, player); end++) {
                int at = end == 0 ? one : two;
                if (ending.shows(index, at)) {
                    int got = worthAfter(ending, left, index, at, end == 0 ? two : one, 1);
                    int own = (player & 1) == 0 ? got : -got;
                    if (best < 0 || own > most) {
                        best = index * 2 + end;
                        most = own;
                    }
                }
            }
        }
        return best;
    }

    /** How many chains all bones left make from the half at on; with a last half of -1 any half may be the last. */
    private static int chains(Typed typed, int left, int at, int last, int depth) {
        if (left == 0) {
            return last < 0 || at == last ? 1 : 0;
        }
        if (depth >= MOST_TYPED) {
            return 0;
        }
        int found = 0;
        for (int index = 0; index < typed.count; index++) {
            if ((left >> index & 1) == 0) {
                continue;
            }
            int after = left & ~(1 << index);
            int low = typed.low(index);
            int high = typed.high(index);
            if (at < 0 || low == at) {
                found += chains(typed, after, high, last, depth + 1);
            }
            if (low != high && (at < 0 || high == at)) {
                found += chains(typed, after, low, last, depth + 1);
            }
        }
        return found;
    }

    /** -1 if the bone counts for nothing; trumps stand above all others, a double above all other halves. */
    private int strengthOf(int bone, int trump, int kind) {
        boolean isTrump = set.shows(bone, trump);
        int value = isTrump ? trump : kind;
        if (!set.shows(bone, value)) {
            return -1;
        }
        int rank = set.isDouble(bone) ? MOST_TOP + 1 : set.weight(bone) - value;
        return isTrump ? rank + MOST_TOP + 2 : rank;
    }

    private boolean isOneOfTheDeals() {
        for (int player = 0; player < players; player++) {
            if (!knowledge.isMisled(player) && (knowledge.lacksOf(player) & handValues(player)) != 0) {
                return false;
            }
        }
        return true;
    }

    /** The bones of the set, none without a match. */
    private static final class BoneSet {
        final int[] lesser = new int[MOST_BONES];
        final int[] greater = new int[MOST_BONES];
        int top = -1;
        int count = 0;

        void take(int highest) {
            top = highest;
            count = 0;
            for (int one = 0; one <= highest; one++) {
                for (int other = one; other <= highest; other++) {
                    if (count < MOST_BONES) {
                        lesser[count] = one;
                        greater[count] = other;
                        count++;
                    }
                }
            }
        }

        void takeAway() {
            top = -1;
            count = 0;
        }

        boolean has(int bone) {
            return bone >= 0 && bone < count;
        }

        boolean hasValue(int value) {
            return value >= 0 && value <= top;
        }

        int low(int bone) {
            return has(bone) ? lesser[bone] : 0;
        }

        int high(int bone) {
            return has(bone) ? greater[bone] : 0;
        }

        int weight(int bone) {
            return low(bone) + high(bone);
        }

        /** The bit of each value that the bone has. */
        int values(int bone) {
            return 1 << low(bone) | 1 << high(bone);
        }

        boolean isDouble(int bone) {
            return low(bone) == high(bone);
        }

        boolean shows(int bone, int value) {
            return low(bone) == value || high(bone) == value;
        }

        int numberOf(int one, int other) {
            int low = Math.min(one, other);
            int high = Math.max(one, other);
            return low * (top + 1) - low * (low - 1) / 2 + high - low;
        }
    }

    /** Where each bone of the round is, and the boneyard in its order. */
    private static final class Places {
        final int[] where = new int[MOST_BONES];
        final int[] row = new int[MOST_BONES];
        int yardCount = 0;

        void clear() {
            Arrays.fill(where, IN_YARD);
            yardCount = 0;
        }

        int of(int bone) {
            return bone >= 0 && bone < where.length ? where[bone] : IN_YARD;
        }

        void shuffle(int bones, int seed) {
            clear();
            yardCount = Math.min(bones, MOST_BONES);
            for (int place = 0; place < yardCount; place++) {
                row[place] = place;
            }
            int z = seed;
            for (int place = yardCount - 1; place >= 1; place--) {
                z = z * 1103515245 + 12345;
                int other = (z >>> 16) % (place + 1);
                int bone = row[place];
                row[place] = row[other];
                row[other] = bone;
            }
        }

        void share(int players, int hand) {
            for (int player = 0; player < players; player++) {
                for (int times = 0; times < hand; times++) {
                    takeFromYard(firstOfYard(), player);
                }
            }
        }

        int firstOfYard() {
            return yardCount > 0 ? row[0] : -1;
        }

        void takeFromYard(int bone, int player) {
            int kept = 0;
            for (int place = 0; place < yardCount; place++) {
                if (row[place] == bone) {
                    put(bone, player + 1);
                } else {
                    row[kept] = row[place];
                    kept++;
                }
            }
            yardCount = kept;
        }

        void putLast(int bone) {
            if (yardCount < MOST_BONES) {
                row[yardCount] = bone;
                yardCount++;
                put(bone, IN_YARD);
            }
        }

        void putOut(int bone) {
            put(bone, IS_LAID);
        }

        void put(int bone, int place) {
            if (bone >= 0 && bone < where.length) {
                where[bone] = place;
            }
        }

        /** Whether the boneyard and the layout hold just those bones, each once, that are said to be there. */
        boolean areSound(int bones, int players, Layout layout) {
            long inYard = 0;
            for (int place = 0; place < yardCount; place++) {
                inYard |= 1L << row[place];
            }
            long inLayout = 0;
            for (int index = 0; index < layout.count; index++) {
                inLayout |= 1L << layout.boneAt(index);
            }
            for (int bone = 0; bone < bones; bone++) {
                boolean isHeld = of(bone) >= 1 && of(bone) <= players;
                if ((inYard >> bone & 1) != (of(bone) == IN_YARD ? 1 : 0)
                        || (inLayout >> bone & 1) != (of(bone) == IS_LAID ? 1 : 0)
                        || !(isHeld || of(bone) == IN_YARD || of(bone) == IS_LAID)) {
                    return false;
                }
            }
            return Long.bitCount(inYard) == yardCount && Long.bitCount(inLayout) == layout.count;
        }
    }

    /** What is laid, as a tree, and its open ends in the order in which they came. */
    private static final class Layout {
        final int[] bones = new int[MOST_BONES];
        final int[] parents = new int[MOST_BONES];
        final int[] joints = new int[MOST_BONES];
        final int[] neighbours = new int[MOST_BONES];
        final boolean[] spinners = new boolean[MOST_BONES];
        final int[] endOwners = new int[MOST_ENDS];
        final int[] endValues = new int[MOST_ENDS];
        int count = 0;
        int endCount = 0;

        void clear() {
            count = 0;
            endCount = 0;
        }

        int boneAt(int index) {
            return index >= 0 && index < count ? bones[index] : -1;
        }

        boolean hasEnd(int end) {
            return end >= 0 && end < endCount;
        }

        int valueOf(int end) {
            return hasEnd(end) ? endValues[end] : -1;
        }

        /** The bit of each value that an open end has. */
        int openValues() {
            int values = 0;
            for (int end = 0; end < endCount; end++) {
                values |= 1 << endValues[end];
            }
            return values;
        }

        boolean hasDouble(BoneSet set) {
            for (int index = 0; index < count; index++) {
                if (set.isDouble(bones[index])) {
                    return true;
                }
            }
            return false;
        }

        void lay(int bone, BoneSet set, int end, boolean spins) {
            if (count >= MOST_BONES || (count > 0 && !hasEnd(end))) {
                return;
            }
            boolean isFirst = count == 0;
            int joint = isFirst ? -1 : endValues[end];
            bones[count] = bone;
            parents[count] = isFirst ? -1 : endOwners[end];
            joints[count] = joint;
            spinners[count] = spins;
            neighbours[count] = 0;
            if (!isFirst) {
                join(count, endOwners[end]);
                removeEnd(end);
            }
            if (set.isDouble(bone)) {
                addEnds(count, set.low(bone), (isFirst ? 2 : 1) + (spins ? 2 : 0));
            } else {
                // The first bone opens both halves, a later one that which is not the joint.
                addEnds(count, set.low(bone), set.low(bone) == joint ? 0 : 1);
                addEnds(count, set.high(bone), set.high(bone) == joint ? 0 : 1);
            }
            count++;
        }

        void join(int index, int parent) {
            if (parent >= 0 && parent < index) {
                neighbours[parent]++;
                neighbours[index]++;
            }
        }

        void removeEnd(int end) {
            for (int next = end + 1; next < endCount; next++) {
                endOwners[next - 1] = endOwners[next];
                endValues[next - 1] = endValues[next];
            }
            endCount--;
        }

        void addEnds(int owner, int value, int times) {
            for (int time = 0; time < times && endCount < MOST_ENDS; time++) {
                endOwners[endCount] = owner;
                endValues[endCount] = value;
                endCount++;
            }
        }

        /** A double counts as a whole while at most one bone is at it, whether it is a spinner or not. */
        int sumOfEnds(BoneSet set) {
            int sum = 0;
            for (int index = 0; index < count; index++) {
                if (set.isDouble(bones[index]) && neighbours[index] <= 1) {
                    sum += set.weight(bones[index]);
                }
            }
            for (int end = 0; end < endCount; end++) {
                if (!set.isDouble(boneAt(endOwners[end]))) {
                    sum += endValues[end];
                }
            }
            return sum;
        }

        boolean hangsTogether(BoneSet set) {
            for (int index = 0; index < count; index++) {
                int parent = parents[index];
                if (index == 0 ? parent != -1 : parent < 0 || parent >= index) {
                    return false;
                }
                if (index > 0 && !(set.shows(bones[index], joints[index]) && set.shows(bones[parent], joints[index]))) {
                    return false;
                }
            }
            return true;
        }

        boolean hasJustFreeEnds(BoneSet set) {
            int free = 0;
            for (int index = 0; index < count; index++) {
                int low = set.low(bones[index]);
                int high = set.high(bones[index]);
                int room = low != high ? 1 : spinners[index] ? 4 : 2;
                int atLow = room - joinedAt(index, low);
                int atHigh = low == high ? 0 : room - joinedAt(index, high);
                if (atLow < 0 || atHigh < 0 || atLow != openAt(index, low)
                        || (low != high && atHigh != openAt(index, high))) {
                    return false;
                }
                free += atLow + atHigh;
            }
            return free == endCount;
        }

        int joinedAt(int index, int value) {
            int joined = 0;
            for (int other = 0; other < count; other++) {
                if ((other == index || parents[other] == index) && joints[other] == value) {
                    joined++;
                }
            }
            return joined;
        }

        int openAt(int index, int value) {
            int open = 0;
            for (int end = 0; end < endCount; end++) {
                if (endOwners[end] == index && endValues[end] == value) {
                    open++;
                }
            }
            return open;
        }
    }

    /** What the passes told of each player, and of whom they told what is false. */
    private static final class Knowledge {
        final int[] lacks = new int[MOST_PLAYERS];
        int misled = 0;

        void clear() {
            Arrays.fill(lacks, 0);
            misled = 0;
        }

        int lacksOf(int player) {
            return player >= 0 && player < lacks.length ? lacks[player] : 0;
        }

        boolean isMisled(int player) {
            return (misled >> player & 1) != 0;
        }

        void learn(int player, int values, boolean isFalse) {
            if (player >= 0 && player < lacks.length) {
                lacks[player] |= values;
                misled |= isFalse ? 1 << player : 0;
            }
        }

        void forget(int player) {
            if (player >= 0 && player < lacks.length) {
                lacks[player] = 0;
                misled &= ~(1 << player);
            }
        }
    }

    /**
     * Counts deals: a state is how many bones each of up to three others has so far, the boneyard having the rest.
     * Bones that everybody may have are left to the end, where binomials count them at once.
     */
    private static final class DealCounter {
        final long[] ways = new long[MOST_STATES];
        final int[] needs = new int[MOST_OTHERS];
        final int[] lacks = new int[MOST_OTHERS];
        int others = 0;
        int second = 1;
        int third = 1;
        int anybodys = 0;

        void restart() {
            Arrays.fill(needs, 0);
            Arrays.fill(lacks, 0);
            others = 0;
            anybodys = 0;
        }

        void addOther(int need, int lack) {
            if (others < MOST_OTHERS) {
                needs[others] = need;
                lacks[others] = lack;
                others++;
            }
        }

        void openStates() {
            second = needs[1] + 1;
            third = needs[2] + 1;
            int last = stateOf(needs[0], needs[1], needs[2]);
            for (int state = 0; state <= last && state < MOST_STATES; state++) {
                ways[state] = 0;
            }
            ways[0] = 1;
        }

        int stateOf(int one, int two, int three) {
            return (one * second + two) * third + three;
        }

        long waysTo(int one, int two, int three) {
            int state = one < 0 || two < 0 || three < 0 ? -1 : stateOf(one, two, three);
            return state >= 0 && state < MOST_STATES ? ways[state] : 0;
        }

        void addBone(int values) {
            boolean mayOne = others > 0 && (lacks[0] & values) == 0;
            boolean mayTwo = others > 1 && (lacks[1] & values) == 0;
            boolean mayThree = others > 2 && (lacks[2] & values) == 0;
            int takers = (mayOne ? 1 : 0) + (mayTwo ? 1 : 0) + (mayThree ? 1 : 0);
            if (takers == others) {
                anybodys++;
            } else if (takers > 0) {
                addRestricted(mayOne, mayTwo, mayThree);
            }
        }

        /** Goes down, so that a state that is looked at has not taken the bone yet. */
        void addRestricted(boolean mayOne, boolean mayTwo, boolean mayThree) {
            for (int one = needs[0]; one >= 0; one--) {
                for (int two = needs[1]; two >= 0; two--) {
                    for (int three = needs[2]; three >= 0; three--) {
                        int state = stateOf(one, two, three);
                        if (state >= 0 && state < MOST_STATES) {
                            ways[state] += (mayOne ? waysTo(one - 1, two, three) : 0)
                                    + (mayTwo ? waysTo(one, two - 1, three) : 0)
                                    + (mayThree ? waysTo(one, two, three - 1) : 0);
                        }
                    }
                }
            }
        }

        long total() {
            long sum = 0;
            for (int one = 0; one <= needs[0]; one++) {
                for (int two = 0; two <= needs[1]; two++) {
                    for (int three = 0; three <= needs[2]; three++) {
                        long so = waysTo(one, two, three);
                        if (so != 0) {
                            sum += so * spread(needs[0] - one, needs[1] - two, needs[2] - three);
                        }
                    }
                }
            }
            return sum;
        }

        long spread(int one, int two, int three) {
            return choose(anybodys, one) * choose(anybodys - one, two) * choose(anybodys - one - two, three);
        }

        /** Each product can be divided, and stays below 2 to the power of 63 for up to 55 bones. */
        static long choose(int from, int many) {
            if (many < 0 || many > from) {
                return 0;
            }
            long ways = 1;
            for (int step = 1; step <= many; step++) {
                ways = ways * (from - many + step) / step;
            }
            return ways;
        }
    }

    /** The bones in hands of an ending, by their numbers; players of odd numbers are the side 1. */
    private static final class Ending {
        final int[] numbers = new int[MOST_SOLVED];
        final int[] lows = new int[MOST_SOLVED];
        final int[] highs = new int[MOST_SOLVED];
        final int[] owners = new int[MOST_SOLVED];
        int count = 0;
        int players = 0;

        void restart(int howMany) {
            count = 0;
            players = howMany;
        }

        void add(int number, int low, int high, int owner) {
            if (count < MOST_SOLVED) {
                numbers[count] = number;
                lows[count] = low;
                highs[count] = high;
                owners[count] = owner;
                count++;
            }
        }

        int allLeft() {
            return (1 << count) - 1;
        }

        int playerAfter(int player) {
            return player + 1 < players ? player + 1 : 0;
        }

        int numberOf(int index) {
            return index >= 0 && index < count ? numbers[index] : -1;
        }

        int ownerOf(int index) {
            return index >= 0 && index < count ? owners[index] : -1;
        }

        boolean isLeft(int left, int index) {
            return (left >> index & 1) != 0;
        }

        boolean canMove(int left, int index, int player) {
            return index >= 0 && index < count && isLeft(left, index) && owners[index] == player;
        }

        boolean shows(int index, int value) {
            return index >= 0 && index < count && (lows[index] == value || highs[index] == value);
        }

        int otherHalf(int index, int value) {
            return index >= 0 && index < count ? lows[index] + highs[index] - value : -1;
        }

        /** Passes are no choice here, so that who cannot play is gone over; -1 if nobody can. */
        int nextWhoCan(int left, int one, int two, int player) {
            int next = player;
            for (int times = 0; times < players; times++) {
                for (int index = 0; index < count; index++) {
                    if (canMove(left, index, next) && (shows(index, one) || shows(index, two))) {
                        return next;
                    }
                }
                next = playerAfter(next);
            }
            return -1;
        }

        boolean isOut(int left, int player) {
            for (int index = 0; index < count; index++) {
                if (canMove(left, index, player)) {
                    return false;
                }
            }
            return true;
        }

        int pipsOfSide(int left, int side) {
            int pips = 0;
            for (int index = 0; index < count; index++) {
                if (isLeft(left, index) && (owners[index] & 1) == side) {
                    pips += lows[index] + highs[index];
                }
            }
            return pips;
        }

        int worthOfWin(int left, int player) {
            return (player & 1) == 0 ? pipsOfSide(left, 1) : -pipsOfSide(left, 0);
        }
    }

    /** The bones that are typed, in the order in which they came. */
    private static final class Typed {
        final int[] numbers = new int[MOST_TYPED];
        final int[] lows = new int[MOST_TYPED];
        final int[] highs = new int[MOST_TYPED];
        int count = 0;

        boolean has(int bone) {
            for (int index = 0; index < count; index++) {
                if (numbers[index] == bone) {
                    return true;
                }
            }
            return false;
        }

        void add(int bone, int low, int high) {
            if (count < MOST_TYPED) {
                numbers[count] = bone;
                lows[count] = low;
                highs[count] = high;
                count++;
            }
        }

        int allLeft() {
            return (1 << count) - 1;
        }

        int low(int index) {
            return index >= 0 && index < count ? lows[index] : 0;
        }

        int high(int index) {
            return index >= 0 && index < count ? highs[index] : 0;
        }
    }
}
