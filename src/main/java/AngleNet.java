import java.util.Arrays;

/**
 * Shapes with told angles: a net of thirds between posts, sums of angles told at posts, and the
 * whole angles that can be given to all corners so. The numbered promises are in DOC.md.
 */
public final class AngleNet {
    public static final int NONE = -6, UNKNOWN = -1, OUTSIDE = -2, STATE = -3, FULL = -4, NO = -5;

    private static final int FEWEST_POSTS = 3;
    private static final int MOST_POSTS = 9;
    private static final int POSTS_AT_FIRST = 4;
    private static final int MOST_THIRDS = 12;
    private static final int MOST_CORNERS = 3 * MOST_THIRDS;
    private static final int LOWEST_STRAIGHT = 6;
    private static final int HIGHEST_STRAIGHT = 360;
    private static final int STRAIGHT_AT_FIRST = 180;
    private static final int HIGHEST_LEAST = 60;
    private static final int HIGHEST_SUM = 4000;
    private static final int MOST_ACTS = 60;
    /** A CHARACTER may be below 0, so that told() needs an answer of its own for a wrong number. */
    private static final int OUTSIDE_OF_TOLD = -1002;
    private static final int UNTOLD = -1;
    private static final int NO_THIRD = -1;

    private final Net net;
    private final Acts acts;
    private final Giver giver;
    private final Bars bars;
    private int straightIs;
    private int leastIs;

    public AngleNet() {
        net = new Net();
        acts = new Acts();
        giver = new Giver(net);
        bars = new Bars(net);
        straightIs = STRAIGHT_AT_FIRST;
        leastIs = 1;
    }

    // ---- 1 the net

    public int posts(int n) {
        if (n < FEWEST_POSTS || n > MOST_POSTS) {
            return OUTSIDE;
        }
        int before = net.postCount();
        net.beginAnew(n);
        acts.forgetAll();
        giver.forgetRow();
        return before;
    }

    public int third(int p, int q, int r) {
        if (!net.areUnlike(p, q) || !net.areUnlike(q, r) || !net.areUnlike(r, p)) {
            return UNKNOWN;
        }
        int number = net.thirdCount();
        if (number >= MOST_THIRDS) {
            return FULL;
        }
        if (net.hasArrow(p, q) || net.hasArrow(q, r) || net.hasArrow(r, p)) {
            return NO;
        }
        acts.begin();
        acts.note(0, number, Net.EMPTY, Net.pack(p, q, r));
        goForward();
        return number;
    }

    public int at(int corner) {
        return net.hasCorner(corner) ? net.postOf(corner) : UNKNOWN;
    }

    public int side(int p, int q) {
        return net.areUnlike(p, q) ? net.thirdsAtSide(p, q) : UNKNOWN;
    }

    public int arrow(int p, int q) {
        if (!net.areUnlike(p, q)) {
            return UNKNOWN;
        }
        return net.hasArrow(p, q) ? net.thirdWith(p, q) : NONE;
    }

    public int turn(int p, int q) {
        if (!net.isSide(p, q)) {
            return UNKNOWN;
        }
        if (net.thirdsAtSide(p, q) == 1) {
            return STATE;
        }
        int first = net.thirdWith(p, q);
        int second = net.thirdWith(q, p);
        int r = net.postOf(net.cornerOpposite(first, p, q));
        int s = net.postOf(net.cornerOpposite(second, p, q));
        if (r == s || net.isSide(r, s)) {
            return NO;
        }
        acts.begin();
        acts.note(0, first, net.packed(first), Net.pack(p, s, r));
        acts.note(1, second, net.packed(second), Net.pack(s, q, r));
        goForward();
        return 1;
    }

    public int about(int post, int what) {
        if (!net.hasPost(post)) {
            return UNKNOWN;
        }
        switch (what) {
            case 0:
                return net.cornersAt(post);
            case 1:
                return net.sidesAt(post, 1) + net.sidesAt(post, 2);
            case 2:
                return net.isFreeOfRim(post) ? 1 : 0;
            case 3:
                return net.isRound(post) ? 1 : 0;
            case 4:
                return sumOrNone(post);
            case 5:
                return giver.findRow(straightIs, leastIs) ? giver.givenAt(post) : NONE;
            default:
                return OUTSIDE;
        }
    }

    public int told(int what) {
        switch (what) {
            case 0:
                return net.postCount();
            case 1:
                return net.thirdCount();
            case 2:
                return net.sidesWith(1) + net.sidesWith(2);
            case 3:
                return net.sidesWith(1);
            case 4:
                return net.character();
            case 5:
                return net.pieces();
            case 6:
                return straightIs;
            case 7:
                return leastIs;
            case 8:
                return net.allSums();
            default:
                return OUTSIDE_OF_TOLD;
        }
    }

    // ---- 2 angles

    public int straight(int n) {
        if (n < LOWEST_STRAIGHT || n > HIGHEST_STRAIGHT || 3 * leastIs > n) {
            return OUTSIDE;
        }
        int before = straightIs;
        straightIs = n;
        giver.forgetRow();
        return before;
    }

    public int least(int m) {
        if (m < 1 || m > HIGHEST_LEAST || 3 * m > straightIs) {
            return OUTSIDE;
        }
        int before = leastIs;
        leastIs = m;
        giver.forgetRow();
        return before;
    }

    public int tell(int post, int sum) {
        if (!net.hasPost(post)) {
            return UNKNOWN;
        }
        if (sum < UNTOLD || sum > HIGHEST_SUM) {
            return OUTSIDE;
        }
        int before = sumOrNone(post);
        acts.begin();
        acts.note(0, Net.FIRST_SUM + post, net.sumOf(post), sum);
        goForward();
        return before;
    }

    public int can() {
        return giver.findRow(straightIs, leastIs) ? 1 : 0;
    }

    public int angle(int corner) {
        if (!net.hasCorner(corner)) {
            return UNKNOWN;
        }
        return giver.findRow(straightIs, leastIs) ? giver.given(corner) : NONE;
    }

    public int best() {
        int good = 0;
        int bad = Math.min(HIGHEST_LEAST, straightIs / 3) + 1;
        // A GIVING for one LEAST is one for every lower LEAST, so that halving finds the edge.
        for (int turns = 0; turns < HIGHEST_LEAST && bad - good > 1; turns++) {
            int middle = (good + bad) / 2;
            if (giver.findAny(straightIs, middle)) {
                good = middle;
            } else {
                bad = middle;
            }
        }
        return good == 0 ? NONE : good;
    }

    public int bar(int what) {
        if (what < Bars.OF_THIRDS || what > Bars.WANT_TOO_LITTLE) {
            return OUTSIDE;
        }
        return giver.findRow(straightIs, leastIs) ? 0 : bars.fewest(what, straightIs, leastIs);
    }

    public int opposite(int p, int q) {
        if (!net.isSide(p, q)) {
            return UNKNOWN;
        }
        return giver.findRow(straightIs, leastIs) ? givenOpposite(p, q) : NONE;
    }

    public int fit() {
        if (!giver.findRow(straightIs, leastIs)) {
            return NONE;
        }
        int fits = 0;
        for (int p = 0; p < net.postCount(); p++) {
            for (int q = p + 1; q < net.postCount(); q++) {
                if (net.thirdsAtSide(p, q) == 2 && givenOpposite(p, q) <= straightIs) {
                    fits++;
                }
            }
        }
        return fits;
    }

    // ---- 3 acts

    public int undo() {
        if (acts.behind() == 0) {
            return STATE;
        }
        acts.backward(net);
        giver.forgetRow();
        return acts.behind();
    }

    public int redo() {
        if (acts.ahead() == 0) {
            return STATE;
        }
        goForward();
        return acts.ahead();
    }

    private void goForward() {
        acts.forward(net);
        giver.forgetRow();
    }

    private int sumOrNone(int post) {
        int sum = net.sumOf(post);
        return sum == UNTOLD ? NONE : sum;
    }

    private int givenOpposite(int p, int q) {
        int together = 0;
        if (net.hasArrow(p, q)) {
            together += giver.given(net.cornerOpposite(net.thirdWith(p, q), p, q));
        }
        if (net.hasArrow(q, p)) {
            together += giver.given(net.cornerOpposite(net.thirdWith(q, p), p, q));
        }
        return together;
    }

    /** The posts, their thirds and their sums. */
    private static final class Net {
        /** What a third's cell holds, if there is no such third. */
        static final int EMPTY = -1;
        /** Cells are what acts change: first the thirds, then the sums of the posts. */
        static final int FIRST_SUM = MOST_THIRDS;
        private static final int CELLS = FIRST_SUM + MOST_POSTS;
        private static final int POST_BITS = 4;
        private static final int POST_MASK = 15;
        private static final int ANY_POST = -1;

        private final int[] corners;
        private final int[] sums;
        /** The third with the arrow p to q at p * MOST_POSTS + q. */
        private final int[] arrows;
        private int posts;
        private int thirds;

        Net() {
            corners = new int[MOST_CORNERS];
            sums = new int[MOST_POSTS];
            arrows = new int[MOST_POSTS * MOST_POSTS];
            posts = POSTS_AT_FIRST;
            thirds = 0;
            Arrays.fill(sums, UNTOLD);
            Arrays.fill(arrows, NO_THIRD);
        }

        void beginAnew(int n) {
            posts = n;
            thirds = 0;
            Arrays.fill(sums, UNTOLD);
            drawArrows();
        }

        static int pack(int p, int q, int r) {
            return p | q << POST_BITS | r << 2 * POST_BITS;
        }

        int packed(int third) {
            return pack(corners[3 * third], corners[3 * third + 1], corners[3 * third + 2]);
        }

        /** After the last put() of an act drawArrows() is due. */
        void put(int cell, int value) {
            if (cell < 0 || cell >= CELLS) {
                return;
            }
            if (cell >= FIRST_SUM) {
                sums[cell - FIRST_SUM] = value;
            } else if (value == EMPTY) {
                thirds = cell;
            } else {
                corners[3 * cell] = value & POST_MASK;
                corners[3 * cell + 1] = value >> POST_BITS & POST_MASK;
                corners[3 * cell + 2] = value >> 2 * POST_BITS & POST_MASK;
                thirds = Math.max(thirds, cell + 1);
            }
        }

        void drawArrows() {
            Arrays.fill(arrows, NO_THIRD);
            for (int k = 0; k < thirds; k++) {
                int p = corners[3 * k];
                int q = corners[3 * k + 1];
                int r = corners[3 * k + 2];
                arrows[p * MOST_POSTS + q] = k;
                arrows[q * MOST_POSTS + r] = k;
                arrows[r * MOST_POSTS + p] = k;
            }
        }

        int postCount() {
            return posts;
        }

        int thirdCount() {
            return thirds;
        }

        int cornerCount() {
            return 3 * thirds;
        }

        boolean hasPost(int post) {
            return post >= 0 && post < posts;
        }

        boolean hasCorner(int corner) {
            return corner >= 0 && corner < cornerCount();
        }

        boolean areUnlike(int p, int q) {
            return hasPost(p) && hasPost(q) && p != q;
        }

        int postOf(int corner) {
            return corners[corner];
        }

        int sumOf(int post) {
            return sums[post];
        }

        boolean isTold(int post) {
            return sums[post] != UNTOLD;
        }

        int thirdWith(int p, int q) {
            return arrows[p * MOST_POSTS + q];
        }

        boolean hasArrow(int p, int q) {
            return thirdWith(p, q) != NO_THIRD;
        }

        int thirdsAtSide(int p, int q) {
            return (hasArrow(p, q) ? 1 : 0) + (hasArrow(q, p) ? 1 : 0);
        }

        boolean isSide(int p, int q) {
            return areUnlike(p, q) && thirdsAtSide(p, q) > 0;
        }

        int cornerOpposite(int third, int p, int q) {
            int corner = 3 * third;
            for (int step = 0; step < 2 && (corners[corner] == p || corners[corner] == q); step++) {
                corner++;
            }
            return corner;
        }

        int cornersAt(int post) {
            int count = 0;
            for (int c = 0; c < cornerCount(); c++) {
                if (corners[c] == post) {
                    count++;
                }
            }
            return count;
        }

        int sidesAt(int post, int withThirds) {
            int count = 0;
            for (int q = 0; q < posts; q++) {
                if (q != post && thirdsAtSide(post, q) == withThirds) {
                    count++;
                }
            }
            return count;
        }

        int sidesWith(int withThirds) {
            int ends = 0;
            for (int p = 0; p < posts; p++) {
                ends += sidesAt(p, withThirds);
            }
            return ends / 2;
        }

        boolean isFreeOfRim(int post) {
            return cornersAt(post) > 0 && sidesAt(post, 1) == 0;
        }

        boolean isRound(int post) {
            int there = thirdsAt(post);
            return there != 0 && hangingWith(there & -there, post) == there;
        }

        int character() {
            int used = 0;
            for (int p = 0; p < posts; p++) {
                if (cornersAt(p) > 0) {
                    used++;
                }
            }
            return used - sidesWith(1) - sidesWith(2) + thirds;
        }

        int pieces() {
            int count = 0;
            int left = (1 << thirds) - 1;
            for (int turns = 0; turns < MOST_THIRDS && left != 0; turns++) {
                left &= ~hangingWith(left & -left, ANY_POST);
                count++;
            }
            return count;
        }

        int allSums() {
            int together = 0;
            for (int p = 0; p < posts; p++) {
                if (isTold(p)) {
                    together += sums[p];
                }
            }
            return together;
        }

        /** The thirds at a post, as bits: each has one arrow that starts there. */
        private int thirdsAt(int post) {
            int there = 0;
            for (int q = 0; q < posts; q++) {
                there |= bitOf(post, q);
            }
            return there;
        }

        /** The thirds that hang together with those told, by sides at a post or by any, as bits. */
        private int hangingWith(int some, int post) {
            int hanging = some;
            int before = 0;
            for (int turns = 0; turns <= MOST_THIRDS && hanging != before; turns++) {
                before = hanging;
                for (int p = 0; p < posts; p++) {
                    if (post == ANY_POST || post == p) {
                        hanging = widened(hanging, p);
                    }
                }
            }
            return hanging;
        }

        private int widened(int some, int post) {
            int wider = some;
            for (int q = 0; q < posts; q++) {
                int pair = bitOf(post, q) | bitOf(q, post);
                if ((wider & pair) != 0) {
                    wider |= pair;
                }
            }
            return wider;
        }

        private int bitOf(int p, int q) {
            return hasArrow(p, q) ? 1 << thirdWith(p, q) : 0;
        }
    }

    /**
     * The latest acts, those that can be undone first, then those that can be done again. An act
     * is held as two cells of the net at most, with what they held before and after it.
     */
    private static final class Acts {
        private static final int CELLS_OF_ACT = 2;
        private static final int NO_CELL = -1;

        private final int[] cells;
        private final int[] before;
        private final int[] after;
        private int behind;
        private int ahead;

        Acts() {
            cells = new int[CELLS_OF_ACT * MOST_ACTS];
            before = new int[CELLS_OF_ACT * MOST_ACTS];
            after = new int[CELLS_OF_ACT * MOST_ACTS];
        }

        void forgetAll() {
            behind = 0;
            ahead = 0;
        }

        int behind() {
            return behind;
        }

        int ahead() {
            return ahead;
        }

        /** Makes room for a new act, which then is the only one that can be done. */
        void begin() {
            if (behind >= MOST_ACTS) {
                dropOldest(cells);
                dropOldest(before);
                dropOldest(after);
                behind = MOST_ACTS - 1;
            }
            for (int which = 0; which < CELLS_OF_ACT; which++) {
                note(which, NO_CELL, 0, 0);
            }
            ahead = 1;
        }

        /** Tells the new act's change, the first (0) or the second (1). */
        void note(int which, int cell, int valueBefore, int valueAfter) {
            int place = CELLS_OF_ACT * behind + which;
            cells[place] = cell;
            before[place] = valueBefore;
            after[place] = valueAfter;
        }

        void forward(Net net) {
            if (ahead > 0) {
                putAll(net, after);
                behind++;
                ahead--;
            }
        }

        void backward(Net net) {
            if (behind > 0) {
                behind--;
                ahead++;
                putAll(net, before);
            }
        }

        private void putAll(Net net, int[] values) {
            for (int which = 0; which < CELLS_OF_ACT; which++) {
                int place = CELLS_OF_ACT * behind + which;
                net.put(cells[place], values[place]);
            }
            net.drawArrows();
        }

        private static void dropOldest(int[] values) {
            System.arraycopy(values, CELLS_OF_ACT, values, 0, values.length - CELLS_OF_ACT);
        }
    }

    /**
     * Finds givings. What a corner has can pass within its third to another corner, and so from
     * post to post: a way leads from a post to a third by a corner that is lowered, and from a
     * third to a post by a corner that is raised.
     */
    private static final class Giver {
        /** All posts whose sums are not told are one: nothing depends on which of them has what. */
        private static final int UNTOLD_POSTS = MOST_POSTS;
        private static final int FIRST_THIRD = UNTOLD_POSTS + 1;
        private static final int NODES = FIRST_THIRD + MOST_THIRDS;
        private static final int UNSEEN = -1;
        private static final int START = -2;
        /** Far above what can be needed, as each push passes 1 or more of some thousands. */
        private static final int MANY = 1000000;

        private final Net net;
        private final int[] row;
        private final int[] places;
        /** What each post has beyond its sum. */
        private final int[] over;
        /** The corner by which a node was reached first. */
        private final int[] via;
        private final int[] queue;
        private int corners;
        private int lowest;
        /** Corners before this one stay as they are. */
        private int firstOpen;
        private boolean rowIsFresh;
        private boolean rowIsThere;

        Giver(Net net) {
            this.net = net;
            row = new int[MOST_CORNERS];
            places = new int[MOST_CORNERS];
            over = new int[FIRST_THIRD];
            via = new int[NODES];
            queue = new int[NODES];
        }

        void forgetRow() {
            rowIsFresh = false;
        }

        int given(int corner) {
            return row[corner];
        }

        int givenAt(int post) {
            int together = 0;
            for (int c = 0; c < corners; c++) {
                if (net.postOf(c) == post) {
                    together += row[c];
                }
            }
            return together;
        }

        boolean findRow(int straight, int least) {
            if (!rowIsFresh) {
                rowIsThere = findAny(straight, least);
                for (int c = 0; c < corners && rowIsThere; c++) {
                    sink(c);
                }
                rowIsFresh = true;
            }
            return rowIsThere;
        }

        /** Finds some giving, which is not the row, where there is one. */
        boolean findAny(int straight, int least) {
            rowIsFresh = false;
            begin(straight, least);
            weigh(straight);
            for (int p = 0; p < FIRST_THIRD; p++) {
                for (int q = 0; q < FIRST_THIRD && over[p] > 0; q++) {
                    level(p, q);
                }
                if (over[p] > 0) {
                    return false;
                }
            }
            return true;
        }

        private void begin(int straight, int least) {
            corners = net.cornerCount();
            lowest = least;
            firstOpen = 0;
            for (int c = 0; c < corners; c++) {
                int post = net.postOf(c);
                places[c] = net.isTold(post) ? post : UNTOLD_POSTS;
                row[c] = c % 3 == 2 ? straight - 2 * least : least;
            }
        }

        /** The posts without told sums are due what the others leave: so all excess is 0 together. */
        private void weigh(int straight) {
            Arrays.fill(over, 0);
            for (int p = 0; p < net.postCount(); p++) {
                over[p] = net.isTold(p) ? -net.sumOf(p) : 0;
            }
            over[UNTOLD_POSTS] = net.allSums() - straight * net.thirdCount();
            for (int c = 0; c < corners; c++) {
                over[places[c]] += row[c];
            }
        }

        private void level(int p, int q) {
            for (int turns = 0; turns < MANY && over[p] > 0 && over[q] < 0; turns++) {
                int passed = push(p, q, Math.min(over[p], -over[q]));
                if (passed == 0) {
                    return;
                }
                over[p] -= passed;
                over[q] += passed;
            }
        }

        /** Makes a corner as low as it can be while all before it stay. */
        private void sink(int corner) {
            firstOpen = corner + 1;
            for (int turns = 0; turns < MANY && row[corner] > lowest; turns++) {
                int passed = push(FIRST_THIRD + corner / 3, places[corner], row[corner] - lowest);
                if (passed == 0) {
                    return;
                }
                row[corner] -= passed;
            }
        }

        /** Passes what it can from start to goal on one way, the limit at most: how much. */
        private int push(int start, int goal, int limit) {
            if (!reaches(start, goal)) {
                return 0;
            }
            int amount = limit;
            int node = goal;
            for (int step = 0; step < NODES && node != start; step++) {
                if (node >= FIRST_THIRD) {
                    amount = Math.min(amount, row[via[node]] - lowest);
                }
                node = nodeBefore(node);
            }
            node = goal;
            for (int step = 0; step < NODES && node != start; step++) {
                row[via[node]] += node >= FIRST_THIRD ? -amount : amount;
                node = nodeBefore(node);
            }
            return amount;
        }

        private int nodeBefore(int node) {
            int corner = via[node];
            return node >= FIRST_THIRD ? places[corner] : FIRST_THIRD + corner / 3;
        }

        private boolean reaches(int start, int goal) {
            Arrays.fill(via, UNSEEN);
            via[start] = START;
            queue[0] = start;
            int seen = 1;
            for (int next = 0; next < NODES && next < seen && via[goal] == UNSEEN; next++) {
                int node = queue[next];
                seen = node >= FIRST_THIRD ? seeFromThird(node, seen) : seeFromPost(node, seen);
            }
            return via[goal] != UNSEEN;
        }

        private int seeFromThird(int node, int seenBefore) {
            int seen = seenBefore;
            int first = 3 * (node - FIRST_THIRD);
            for (int c = Math.max(first, firstOpen); c < first + 3; c++) {
                int post = places[c];
                if (via[post] == UNSEEN) {
                    via[post] = c;
                    queue[seen] = post;
                    seen++;
                }
            }
            return seen;
        }

        private int seeFromPost(int post, int seenBefore) {
            int seen = seenBefore;
            for (int c = firstOpen; c < corners; c++) {
                int third = FIRST_THIRD + c / 3;
                if (places[c] == post && row[c] > lowest && via[third] == UNSEEN) {
                    via[third] = c;
                    queue[seen] = third;
                    seen++;
                }
            }
            return seen;
        }
    }

    /** Finds the thirds or the posts that bar every giving. */
    private static final class Bars {
        static final int OF_THIRDS = 0;
        static final int WANT_TOO_MUCH = 1;
        static final int WANT_TOO_LITTLE = 2;
        /** Sets of thirds are looked up half by half: one row for all of them would be too long. */
        private static final int HALF = MOST_THIRDS / 2;
        private static final int SETS_OF_HALF = 1 << HALF;

        private final Net net;
        /** The posts of each third, as bits. */
        private final int[] postsOf;
        /** The posts of each set of the first thirds, then of each set of the other ones. */
        private final int[] postsOfSets;
        /** What the posts of each set have together, of what matters for a kind of bars. */
        private final int[] totals;
        private int toldPosts;
        private int straight;
        private int least;

        Bars(Net net) {
            this.net = net;
            postsOf = new int[MOST_THIRDS];
            postsOfSets = new int[2 * SETS_OF_HALF];
            totals = new int[1 << MOST_POSTS];
        }

        int fewest(int kind, int straightNow, int leastNow) {
            straight = straightNow;
            least = leastNow;
            lookAtPosts(kind);
            lookAtThirds();
            int all = kind == OF_THIRDS ? thirdsAtToldPosts() : toldPosts;
            int found = 0;
            // The sets come in the order of their bits, so that of several as few the first stays.
            for (int set = 1; set <= all; set++) {
                boolean fewer = found == 0 || Integer.bitCount(set) < Integer.bitCount(found);
                if (fewer && (set & ~all) == 0 && isBar(kind, set)) {
                    found = set;
                }
            }
            return found;
        }

        /** For bars of thirds a post has its sum less the least for each of its corners. */
        private void lookAtPosts(int kind) {
            toldPosts = 0;
            for (int p = 0; p < net.postCount(); p++) {
                int bit = 1 << p;
                int own = net.sumOf(p) - (kind == OF_THIRDS ? least * net.cornersAt(p) : 0);
                toldPosts |= net.isTold(p) ? bit : 0;
                for (int set = 0; set < bit; set++) {
                    totals[bit + set] = totals[set] + own;
                }
            }
        }

        private void lookAtThirds() {
            for (int k = 0; k < net.thirdCount(); k++) {
                postsOf[k] = 1 << net.postOf(3 * k) | 1 << net.postOf(3 * k + 1) | 1 << net.postOf(3 * k + 2);
                int none = k < HALF ? 0 : SETS_OF_HALF;
                int bit = 1 << k % HALF;
                for (int set = 0; set < bit; set++) {
                    postsOfSets[none + bit + set] = postsOfSets[none + set] | postsOf[k];
                }
            }
        }

        private int thirdsAtToldPosts() {
            int all = 0;
            for (int k = 0; k < net.thirdCount(); k++) {
                all |= (postsOf[k] & ~toldPosts) == 0 ? 1 << k : 0;
            }
            return all;
        }

        private boolean isBar(int kind, int set) {
            switch (kind) {
                case OF_THIRDS:
                    return straight * Integer.bitCount(set) > roomFor(set);
                case WANT_TOO_MUCH:
                    return totals[set] > mostOf(set);
                default:
                    return totals[set] < leastOf(set);
            }
        }

        /** What their posts can have of a set of thirds: the least of its own corners is no loss. */
        private int roomFor(int thirds) {
            int posts = postsOfSets[thirds % SETS_OF_HALF] | postsOfSets[SETS_OF_HALF + thirds / SETS_OF_HALF];
            return totals[posts] + 3 * least * Integer.bitCount(thirds);
        }

        /** What the thirds of a set of posts can give to it. */
        private int mostOf(int posts) {
            int most = 0;
            for (int k = 0; k < net.thirdCount(); k++) {
                int there = Integer.bitCount(postsOf[k] & posts);
                most += there == 0 ? 0 : straight - least * (3 - there);
            }
            return most;
        }

        /** What a set of posts must have. */
        private int leastOf(int posts) {
            int due = 0;
            for (int k = 0; k < net.thirdCount(); k++) {
                int there = Integer.bitCount(postsOf[k] & posts);
                due += there == 3 ? straight : least * there;
            }
            return due;
        }
    }
}
