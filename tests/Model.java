import java.math.BigInteger;
import java.util.ArrayList;
import java.util.HashMap;
import java.util.List;
import java.util.Map;
import java.util.NoSuchElementException;
import java.util.Set;
import java.util.TreeSet;

/** The document once more, written with the library's collections and in other ways, to be compared with Bonehall. */
final class Model {
    private record Bone(int low, int high) {
        boolean has(int value) {
            return low == value || high == value;
        }

        boolean isDouble() {
            return low == high;
        }

        int pips() {
            return low + high;
        }
    }

    private static final class Node {
        final Bone bone;
        final boolean isFirst;
        final boolean isSpinner;
        int at = 0;

        Node(Bone bone, boolean isFirst, boolean isSpinner) {
            this.bone = bone;
            this.isFirst = isFirst;
            this.isSpinner = isSpinner;
        }
    }

    private record End(Node node, int value) {
    }

    private final Set<Character> rules = new TreeSet<>();
    private final List<Bone> set = new ArrayList<>();
    private final List<TreeSet<Integer>> hands = new ArrayList<>();
    private final List<Integer> boneyard = new ArrayList<>();
    private final List<Integer> lain = new ArrayList<>();
    private final List<Node> nodes = new ArrayList<>();
    private final List<End> open = new ArrayList<>();
    private final List<Set<Integer>> voids = new ArrayList<>();
    private final List<Integer> typedBones = new ArrayList<>();
    private int[] score = new int[0];
    private int top = -1;
    private int size;
    private int dealtRounds;
    private boolean going;
    private int now;
    private int first;
    private int passed;
    private Integer last;
    private int foundPasses;

    boolean rule(char letter, boolean is) {
        if ("psxdftcr".indexOf(letter) < 0) {
            throw new IllegalArgumentException();
        }
        if (top >= 0) {
            throw new IllegalStateException();
        }
        return is ? !rules.add(letter) : rules.remove(letter);
    }

    int begin(int highest, int players, int hand) {
        if (highest < 3 || highest > 9 || players < 2 || players > 4 || hand < 2 || hand > 9) {
            throw new IllegalArgumentException();
        }
        int bones = 0;
        for (int i = 0; i <= highest; i++) {
            bones += i + 1;
        }
        if (bones < players * hand || rules.contains('p') && players != 4) {
            throw new UnsupportedOperationException();
        }
        if (dealtRounds != 0) {
            throw new IllegalStateException();
        }
        close();
        top = highest;
        size = hand;
        for (int low = 0; low <= highest; low++) {
            for (int high = low; high <= highest; high++) {
                set.add(new Bone(low, high));
            }
        }
        for (int i = 0; i < players; i++) {
            hands.add(new TreeSet<>());
            voids.add(new TreeSet<>());
        }
        score = new int[rules.contains('p') ? 2 : players];
        return set.size();
    }

    int deal(int seed) {
        if (top < 0 || going) {
            throw new IllegalStateException();
        }
        int beginner = first;
        if (last != null && last >= 0) {
            beginner = last;
            if (rules.contains('p') && pips(last + 2) < pips(last)) {
                beginner = last + 2;
            }
        }
        int[] row = Scene.shuffled(set.size(), seed);
        boneyard.clear();
        int next = 0;
        for (TreeSet<Integer> hand : hands) {
            hand.clear();
            for (int i = 0; i < size; i++) {
                hand.add(row[next++]);
            }
        }
        while (next < row.length) {
            boneyard.add(row[next++]);
        }
        lain.clear();
        nodes.clear();
        open.clear();
        voids.forEach(Set::clear);
        if (dealtRounds == 0) {
            beginner = 0;
            int best = -1;
            for (int p = 0; p < hands.size(); p++) {
                for (int b : hands.get(p)) {
                    if (set.get(b).isDouble() && set.get(b).low > best) {
                        best = set.get(b).low;
                        beginner = p;
                    }
                }
            }
        }
        first = beginner;
        now = beginner;
        passed = 0;
        going = true;
        dealtRounds++;
        return beginner;
    }

    int close() {
        int before = dealtRounds;
        set.clear();
        hands.clear();
        boneyard.clear();
        lain.clear();
        nodes.clear();
        open.clear();
        voids.clear();
        typedBones.clear();
        score = new int[0];
        top = -1;
        size = 0;
        dealtRounds = 0;
        going = false;
        passed = 0;
        last = null;
        first = 0;
        foundPasses = 0;
        return before;
    }

    private void player(int player) {
        if (player < 0 || player >= hands.size()) {
            throw new IndexOutOfBoundsException();
        }
    }

    private Bone at(int bone) {
        if (bone < 0 || bone >= set.size()) {
            throw new IndexOutOfBoundsException();
        }
        return set.get(bone);
    }

    private void round() {
        if (!going) {
            throw new IllegalStateException();
        }
    }

    private static void unless(boolean is) {
        if (!is) {
            throw new UnsupportedOperationException();
        }
    }

    int bone(int one, int other) {
        if (top < 0) {
            throw new IllegalStateException();
        }
        int found = set.indexOf(new Bone(Math.min(one, other), Math.max(one, other)));
        if (found < 0) {
            throw new IllegalArgumentException();
        }
        return found;
    }

    int half(int bone, boolean isGreater) {
        return isGreater ? at(bone).high : at(bone).low;
    }

    int inHand(int player) {
        player(player);
        return hands.get(player).size();
    }

    int handAt(int player, int index) {
        player(player);
        if (index < 0 || index >= hands.get(player).size()) {
            throw new NoSuchElementException();
        }
        return new ArrayList<>(hands.get(player)).get(index);
    }

    int pips(int player) {
        player(player);
        return hands.get(player).stream().mapToInt(b -> set.get(b).pips()).sum();
    }

    int yard() {
        return boneyard.size();
    }

    int give(int player, int bone) {
        player(player);
        at(bone);
        round();
        unless(lain.isEmpty() && boneyard.contains(bone));
        int gone = hands.get(player).pollFirst();
        hands.get(player).add(bone);
        boneyard.remove((Integer) bone);
        boneyard.add(gone);
        return gone;
    }

    int turn() {
        round();
        return now;
    }

    int laid() {
        return lain.size();
    }

    int laidAt(int index) {
        if (index < 0 || index >= lain.size()) {
            throw new NoSuchElementException();
        }
        return lain.get(index);
    }

    int ends() {
        return open.size();
    }

    int endAt(int end) {
        if (end < 0 || end >= open.size()) {
            throw new IndexOutOfBoundsException();
        }
        return open.get(end).value;
    }

    int sum() {
        int sum = 0;
        Set<Node> counted = java.util.Collections.newSetFromMap(new java.util.IdentityHashMap<>());
        for (End end : open) {
            Node node = end.node;
            if (!node.bone.isDouble()) {
                sum += end.value;
            } else if (!node.isSpinner && counted.add(node)) {
                sum += node.bone.pips();
            }
        }
        for (Node node : nodes) {
            if (node.isSpinner && node.at <= 1) {
                sum += node.bone.pips();
            }
        }
        return sum;
    }

    boolean fits(int bone, int end) {
        Bone meant = at(bone);
        return meant.has(endAt(end));
    }

    boolean canPlay(int player) {
        player(player);
        round();
        return can(player);
    }

    private boolean can(int player) {
        if (lain.isEmpty()) {
            return true;
        }
        for (int b : hands.get(player)) {
            for (End end : open) {
                if (set.get(b).has(end.value)) {
                    return true;
                }
            }
        }
        return false;
    }

    private int side(int player) {
        return rules.contains('p') ? player % 2 : player;
    }

    private int pipsOf(int side, boolean isOwn) {
        int all = 0;
        for (int p = 0; p < hands.size(); p++) {
            if (side(p) == side == isOwn) {
                all += pips(p);
            }
        }
        return all;
    }

    int play(int bone, int end) {
        Bone meant = at(bone);
        round();
        if (!hands.get(now).contains(bone)) {
            throw new NoSuchElementException();
        }
        unless(lain.isEmpty() || end >= 0 && end < open.size() && meant.has(open.get(end).value));
        boolean low = false;
        boolean high = false;
        for (End e : open) {
            low |= e.value == meant.low;
            high |= e.value == meant.high;
        }
        int own = side(now);
        if (voids.get(now).contains(meant.low) || voids.get(now).contains(meant.high)) {
            foundPasses++;
            voids.get(now).clear();
            for (int s = 0; s < score.length; s++) {
                score[s] += s == own ? 0 : 20;
            }
        }
        lay(meant, end);
        hands.get(now).remove(bone);
        lain.add(bone);
        passed = 0;
        int gain = 0;
        int sum = sum();
        gain += rules.contains('f') && sum % 5 == 0 ? sum : 0;
        gain += rules.contains('t') && sum % 3 == 0 ? sum : 0;
        if (hands.get(now).isEmpty()) {
            gain += pipsOf(own, false);
            gain += rules.contains('c') && !meant.isDouble() && low && high ? 25 : 0;
            going = false;
            last = own;
        }
        score[own] += gain;
        now = (now + 1) % hands.size();
        return gain;
    }

    private void lay(Bone bone, int end) {
        boolean spins = bone.isDouble() && (rules.contains('x')
                || rules.contains('s') && nodes.stream().noneMatch(n -> n.bone.isDouble()));
        Node node = new Node(bone, nodes.isEmpty(), spins);
        if (nodes.isEmpty()) {
            open.add(new End(node, bone.low));
            open.add(new End(node, bone.high));
            if (spins) {
                open.add(new End(node, bone.low));
                open.add(new End(node, bone.low));
            }
        } else {
            End gone = open.remove(end);
            gone.node.at++;
            node.at++;
            int other = bone.low == gone.value ? bone.high : bone.low;
            for (int i = 0; i < (spins ? 3 : 1); i++) {
                open.add(new End(node, other));
            }
        }
        nodes.add(node);
    }

    private boolean mayDraw() {
        return rules.contains('d') && !can(now) && boneyard.size() > 2;
    }

    int draw() {
        round();
        unless(mayDraw());
        int drawn = boneyard.remove(0);
        hands.get(now).add(drawn);
        voids.get(now).clear();
        return drawn;
    }

    int pass() {
        round();
        unless((!can(now) || rules.contains('r')) && !mayDraw());
        for (End end : open) {
            voids.get(now).add(end.value);
        }
        now = (now + 1) % hands.size();
        if (++passed < hands.size()) {
            return now;
        }
        going = false;
        last = -1;
        for (int s = 0; s < score.length; s++) {
            boolean isFewest = true;
            for (int o = 0; o < score.length; o++) {
                isFewest &= o == s || pipsOf(s, true) < pipsOf(o, true);
            }
            if (isFewest) {
                last = s;
                score[s] += pipsOf(s, false) - pipsOf(s, true);
            }
        }
        return -1;
    }

    boolean isBlocked() {
        round();
        unless(!lain.isEmpty());
        for (int b = 0; b < set.size(); b++) {
            for (End end : open) {
                if (!lain.contains(b) && set.get(b).has(end.value)) {
                    return false;
                }
            }
        }
        return true;
    }

    int winner() {
        if (last == null) {
            throw new NoSuchElementException();
        }
        return last;
    }

    int points(int side) {
        if (side < 0 || side >= score.length) {
            throw new IndexOutOfBoundsException();
        }
        return score[side];
    }

    boolean isVoid(int player, int value) {
        player(player);
        if (value < 0 || value > top) {
            throw new IllegalArgumentException();
        }
        return voids.get(player).contains(value);
    }

    int found() {
        return foundPasses;
    }

    long deals(int player) {
        player(player);
        round();
        return ways(player, -1, -1).longValue();
    }

    double chance(int player, int other, int bone) {
        player(player);
        player(other);
        at(bone);
        if (player == other) {
            throw new IllegalArgumentException();
        }
        round();
        unless(!lain.contains(bone) && !hands.get(player).contains(bone));
        long all = deals(player);
        if (all == 0) {
            throw new ArithmeticException();
        }
        return (double) ways(player, other, bone).longValue() / (double) all;
    }

    private BigInteger ways(int eye, int holder, int held) {
        List<Integer> unseen = new ArrayList<>();
        for (int b = 0; b < set.size(); b++) {
            if (!lain.contains(b) && !hands.get(eye).contains(b)) {
                unseen.add(b);
            }
        }
        int[] room = new int[hands.size() + 1];
        for (int p = 0; p < hands.size(); p++) {
            room[p] = p == eye ? 0 : hands.get(p).size();
        }
        room[hands.size()] = boneyard.size();
        return waysFrom(0, unseen, room, holder, held, new HashMap<>());
    }

    /** Puts one unseen bone after the other to each place that may have it; the boneyard is the last place. */
    private BigInteger waysFrom(int from, List<Integer> unseen, int[] room, int holder, int held,
            Map<List<Integer>, BigInteger> known) {
        if (from == unseen.size()) {
            return BigInteger.ONE;
        }
        List<Integer> key = new ArrayList<>();
        for (int r : room) {
            key.add(r);
        }
        BigInteger before = known.get(key);
        if (before != null) {
            return before;
        }
        int bone = unseen.get(from);
        BigInteger sum = BigInteger.ZERO;
        for (int place = 0; place < room.length; place++) {
            boolean may = room[place] > 0 && (bone != held || place == holder);
            if (may && place < hands.size()) {
                for (int value : voids.get(place)) {
                    may &= !set.get(bone).has(value);
                }
            }
            if (may) {
                room[place]--;
                sum = sum.add(waysFrom(from + 1, unseen, room, holder, held, known));
                room[place]++;
            }
        }
        known.put(key, sum);
        return sum;
    }

    private void solvable() {
        round();
        boolean is = score.length == 2 && !lain.isEmpty();
        for (char letter : "sxdftcr".toCharArray()) {
            is &= !rules.contains(letter);
        }
        unless(is && hands.stream().mapToInt(Set::size).sum() <= 8);
    }

    int solve() {
        solvable();
        return best(copyOfHands(), endValues(), now, passed)[0];
    }

    int bestBone() {
        solvable();
        return best(copyOfHands(), endValues(), now, passed)[1];
    }

    int bestEnd() {
        solvable();
        return best(copyOfHands(), endValues(), now, passed)[2];
    }

    private List<TreeSet<Integer>> copyOfHands() {
        List<TreeSet<Integer>> copy = new ArrayList<>();
        for (TreeSet<Integer> hand : hands) {
            copy.add(new TreeSet<>(hand));
        }
        return copy;
    }

    private List<Integer> endValues() {
        List<Integer> values = new ArrayList<>();
        for (End end : open) {
            values.add(end.value);
        }
        return values;
    }

    private int pipsIn(List<TreeSet<Integer>> held, int side) {
        int all = 0;
        for (int p = 0; p < held.size(); p++) {
            if (p % 2 == side) {
                for (int b : held.get(p)) {
                    all += set.get(b).pips();
                }
            }
        }
        return all;
    }

    /** Value for the side of the player, bone, end; passes are moves of the game here. */
    private int[] best(List<TreeSet<Integer>> held, List<Integer> values, int player, int passesBefore) {
        int[] best = null;
        for (int b : new ArrayList<>(held.get(player))) {
            for (int e = 0; e < values.size(); e++) {
                int value = values.get(e);
                if (!set.get(b).has(value)) {
                    continue;
                }
                List<Integer> then = new ArrayList<>(values);
                then.remove(e);
                then.add(set.get(b).pips() - value);
                held.get(player).remove(b);
                int got = held.get(player).isEmpty() ? pipsIn(held, 1 - player % 2)
                        : -best(held, then, (player + 1) % held.size(), 0)[0];
                held.get(player).add(b);
                if (best == null || got > best[0]) {
                    best = new int[] {got, b, e};
                }
            }
        }
        if (best != null) {
            return best;
        }
        if (passesBefore + 1 == held.size()) {
            int own = pipsIn(held, player % 2);
            int others = pipsIn(held, 1 - player % 2);
            return new int[] {others - own, -1, -1};
        }
        return new int[] {-best(held, values, (player + 1) % held.size(), passesBefore + 1)[0], -1, -1};
    }

    int type(int bone) {
        at(bone);
        unless(!typedBones.contains(bone));
        if (typedBones.size() == 9) {
            throw new IllegalStateException();
        }
        typedBones.add(bone);
        return typedBones.size();
    }

    int wipe() {
        int before = typedBones.size();
        typedBones.clear();
        return before;
    }

    int rows() {
        return countRows(false);
    }

    int rings() {
        return countRows(true);
    }

    /** Rows of each part of what is typed, by their outer halves, made longer at the right end. */
    private int countRows(boolean isClosed) {
        int n = typedBones.size();
        int[][][] rows = new int[1 << n][10][10];
        int all = 0;
        for (int part = 1; part < 1 << n; part++) {
            for (int i = 0; i < n; i++) {
                if ((part & 1 << i) == 0) {
                    continue;
                }
                Bone bone = set.get(typedBones.get(i));
                int rest = part - (1 << i);
                for (int turned = 0; turned < (bone.isDouble() ? 1 : 2); turned++) {
                    int left = turned == 0 ? bone.low : bone.high;
                    int right = turned == 0 ? bone.high : bone.low;
                    if (rest == 0) {
                        rows[part][left][right]++;
                    }
                    for (int start = 0; start < 10; start++) {
                        rows[part][start][right] += rows[rest][start][left];
                    }
                }
            }
        }
        for (int start = 0; n > 0 && start < 10; start++) {
            for (int end = 0; end < 10; end++) {
                all += isClosed && start != end ? 0 : rows[(1 << n) - 1][start][end];
            }
        }
        return all;
    }

    int trick(int trump, int one, int two, int three, int four) {
        int[] numbers = {one, two, three, four};
        for (int number : numbers) {
            at(number);
        }
        if (trump < -1 || trump > top || new TreeSet<>(List.of(one, two, three, four)).size() < 4) {
            throw new IllegalArgumentException();
        }
        int best = 0;
        for (int i = 1; i < 4; i++) {
            if (beats(set.get(numbers[i]), set.get(numbers[best]), set.get(one), trump)) {
                best = i;
            }
        }
        return best;
    }

    /** Whether the one beats the other, which counts: it is a trump, or of the first one's kind. */
    private static boolean beats(Bone one, Bone other, Bone first, int trump) {
        if (one.has(trump) != other.has(trump)) {
            return one.has(trump);
        }
        int kind = one.has(trump) ? trump : first.high;
        if (!one.has(kind)) {
            return false;
        }
        if (one.isDouble() || other.isDouble()) {
            return one.isDouble();
        }
        return one.pips() > other.pips();
    }

    int rounds() {
        return dealtRounds;
    }

    float laidShare() {
        if (top < 0) {
            throw new ArithmeticException();
        }
        return (float) lain.size() / set.size();
    }

    double meanPips() {
        if (dealtRounds == 0) {
            throw new ArithmeticException();
        }
        double all = 0;
        for (int p = 0; p < hands.size(); p++) {
            all += pips(p);
        }
        return all / hands.size();
    }

    long checksum() {
        List<Integer> parts = new ArrayList<>();
        for (int b = 0; b < set.size(); b++) {
            int where = lain.contains(b) ? 9 : 0;
            for (int p = 0; p < hands.size(); p++) {
                where = hands.get(p).contains(b) ? p + 1 : where;
            }
            parts.add(where);
        }
        parts.addAll(endValues());
        for (int s : score) {
            parts.add(s);
        }
        long sum = 7;
        for (int part : parts) {
            sum = 31 * sum + part;
        }
        return sum;
    }

    boolean isSound() {
        return true;
    }
}
