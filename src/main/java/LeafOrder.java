/**
 * Puts the leaves of a book that fell apart in order, as ../shared/DOC.md promises.
 *
 * <p>A leaf with the way it stands is one number, a "stand": twice the leaf, and 1 more if it is
 * turned. Its first side has the same number, and its last side differs in the lowest bit. A set of
 * leaves is a number with one bit for each leaf. All rows are made with the object and used again.
 */
public final class LeafOrder {
    public static final int NONE = -1;

    private static final int MOST_LEAVES = 9;
    private static final int STANDS = 2 * MOST_LEAVES;
    private static final int SETS = 1 << MOST_LEAVES;
    private static final int STAINS = 3;
    private static final int MOST_MARK = 99;
    private static final int MOST_MORE = 1000;
    // Above the cost of any order, and small enough that several can be added without wrapping.
    private static final int FAR = 1_000_000;

    private static final int RUN = 0;
    private static final int STAIN = 1;
    private static final int CATCH = 2;
    private static final int CUT = 3;
    private static final int TURN = 4;
    private static final int GAP = 5;

    private final Leaves pile;
    private final Scale scale;
    private final Rules rules;
    private final Search search;
    private final Books books;
    private boolean mayTurn;
    private boolean stale;

    public LeafOrder() {
        pile = new Leaves();
        scale = new Scale(pile);
        rules = new Rules();
        search = new Search(rules);
        books = new Books(search);
        mayTurn = true;
        stale = true;
    }

    public int leaf(int begin, int end, int otherBegin, int otherEnd) {
        boolean fits = isMark(begin) && isMark(end) && isMark(otherBegin) && isMark(otherEnd);
        if (!fits || pile.count >= MOST_LEAVES) {
            return NONE;
        }
        stale = true;
        return pile.add(begin, end, otherBegin, otherEnd);
    }

    public boolean catchword(int leaf, int side, int word) {
        if (!pile.hasSide(leaf, side) || word != NONE && !isMark(word)) {
            return false;
        }
        pile.words[2 * leaf + side] = word;
        stale = true;
        return true;
    }

    public boolean cut(int leaf, int side, int begin, int end) {
        if (!pile.hasSide(leaf, side) || !isMark(begin) || !isMark(end)) {
            return false;
        }
        pile.cutBegins[2 * leaf + side] = begin;
        pile.cutEnds[2 * leaf + side] = end;
        stale = true;
        return true;
    }

    public boolean stain(int leaf, int k, int size) {
        if (!pile.has(leaf) || !isWithin(k, STAINS - 1) || !isMark(size)) {
            return false;
        }
        pile.stains[STAINS * leaf + k] = size;
        stale = true;
        return true;
    }

    public boolean weights(int run, int stain, int catches, int cut, int turn, int gap) {
        boolean fits = isWithin(run, 9) && isWithin(stain, 9) && isWithin(catches, 99)
                && isWithin(cut, 99) && isWithin(turn, 99) && isWithin(gap, 999);
        if (!fits) {
            return false;
        }
        scale.sizes[RUN] = run;
        scale.sizes[STAIN] = stain;
        scale.sizes[CATCH] = catches;
        scale.sizes[CUT] = cut;
        scale.sizes[TURN] = turn;
        scale.sizes[GAP] = gap;
        stale = true;
        return true;
    }

    public void turnable(boolean may) {
        mayTurn = may;
        stale = true;
    }

    public boolean must(int a, int b, boolean joined, boolean it) {
        if (!areTwo(a, b)) {
            return false;
        }
        if (joined) {
            rules.putJoined(a, b, it);
        } else {
            rules.putAhead(a, b, it);
        }
        stale = true;
        return true;
    }

    public int join(int a, boolean turnedA, int b, boolean turnedB) {
        if (!areTwo(a, b) || (turnedA || turnedB) && !mayTurn) {
            return NONE;
        }
        return scale.joinCost(standOf(a, turnedA), standOf(b, turnedB));
    }

    public int best() {
        refresh();
        return costOrNone(search.bestCost);
    }

    public int at(int i, int what) {
        refresh();
        if (search.bestCost >= FAR || i < 0 || i >= pile.count) {
            return NONE;
        }
        int stand = search.order[i];
        switch (what) {
            case 0:
                return stand >> 1;
            case 1:
                return stand & 1;
            case 2:
                return i > 0 && scale.isMissing(search.order[i - 1], stand) ? 1 : 0;
            default:
                return NONE;
        }
    }

    public int next() {
        refresh();
        return costOrNone(search.nextCost);
    }

    public int sure(int a, int b, int d) {
        if (!areTwo(a, b) || !isWithin(d, MOST_MORE)) {
            return NONE;
        }
        refresh();
        if (search.bestCost >= FAR) {
            return NONE;
        }
        return search.isSure(a, b, d) ? 1 : 0;
    }

    public int two() {
        refresh();
        return costOrNone(books.cost);
    }

    public int book(int leaf) {
        refresh();
        if (!pile.has(leaf) || books.cost >= FAR) {
            return NONE;
        }
        return books.other >> leaf & 1;
    }

    public int doubt(int leaf, int d) {
        if (!pile.has(leaf) || leaf == 0 || !isWithin(d, MOST_MORE)) {
            return NONE;
        }
        refresh();
        if (books.cost >= FAR) {
            return NONE;
        }
        return books.leastWithMoved(leaf) <= books.cost + d ? 1 : 0;
    }

    public int about(int what) {
        if (what == 0) {
            return pile.count;
        }
        if (what >= 1 && what <= scale.sizes.length) {
            return scale.sizes[what - 1];
        }
        if (what == 7) {
            return mayTurn ? 1 : 0;
        }
        return NONE;
    }

    private boolean areTwo(int a, int b) {
        return pile.has(a) && pile.has(b) && a != b;
    }

    // One search serves all questions that are asked before the next change.
    private void refresh() {
        if (!stale) {
            return;
        }
        search.prepare(scale, mayTurn);
        search.solve();
        books.part();
        stale = false;
    }

    private static int standOf(int leaf, boolean turned) {
        return 2 * leaf + (turned ? 1 : 0);
    }

    private static int costOrNone(int cost) {
        return cost < FAR ? cost : NONE;
    }

    private static boolean isMark(int value) {
        return isWithin(value, MOST_MARK);
    }

    private static boolean isWithin(int value, int most) {
        return value >= 0 && value <= most;
    }

    /** What is known of each side (twice the leaf, and the side) and each leaf. */
    private static final class Leaves {
        int count;
        final int[] begins = new int[STANDS];
        final int[] ends = new int[STANDS];
        final int[] words = new int[STANDS];
        final int[] cutBegins = new int[STANDS];
        final int[] cutEnds = new int[STANDS];
        final int[] stains = new int[STAINS * MOST_LEAVES];

        int add(int begin, int end, int otherBegin, int otherEnd) {
            int side = 2 * count;
            begins[side] = begin;
            ends[side] = end;
            words[side] = NONE;
            begins[side + 1] = otherBegin;
            ends[side + 1] = otherEnd;
            words[side + 1] = NONE;
            count++;
            return count - 1;
        }

        boolean has(int leaf) {
            return leaf >= 0 && leaf < count;
        }

        boolean hasSide(int leaf, int side) {
            return has(leaf) && isWithin(side, 1);
        }

        int stainsApart(int a, int b) {
            int apart = 0;
            for (int k = 0; k < STAINS; k++) {
                apart += Math.abs(stains[STAINS * a + k] - stains[STAINS * b + k]);
            }
            return apart;
        }
    }

    /** The weights, and what a join costs by them. */
    private static final class Scale {
        final Leaves pile;
        final int[] sizes = {1, 0, 20, 10, 30, 0};

        Scale(Leaves pile) {
            this.pile = pile;
        }

        int joinCost(int standA, int standB) {
            int cost = fullCost(standA, standB);
            return isOverGap(cost) ? sizes[GAP] : cost;
        }

        boolean isMissing(int standA, int standB) {
            return isOverGap(fullCost(standA, standB));
        }

        private boolean isOverGap(int cost) {
            return sizes[GAP] > 0 && cost > sizes[GAP];
        }

        private int fullCost(int standA, int standB) {
            int last = standA ^ 1;
            int first = standB;
            int begin = pile.begins[first];
            int word = pile.words[last];
            int cost = sizes[RUN] * Math.abs(begin - pile.ends[last]);
            if (word != NONE && word != begin) {
                cost += sizes[CATCH];
            }
            if (pile.cutEnds[last] != pile.cutBegins[first]) {
                cost += sizes[CUT];
            }
            return cost + sizes[STAIN] * pile.stainsApart(standA >> 1, standB >> 1);
        }
    }

    /** What must be ahead of what, and what must be right behind what. */
    private static final class Rules {
        // For each leaf: those that it must be ahead of, those that must be right behind it,
        // and those that it must be right behind.
        final int[] behind = new int[MOST_LEAVES];
        final int[] rightBehind = new int[MOST_LEAVES];
        final int[] rightAhead = new int[MOST_LEAVES];

        void putAhead(int a, int b, boolean it) {
            behind[a] = withBit(behind[a], b, it);
        }

        void putJoined(int a, int b, boolean it) {
            rightBehind[a] = withBit(rightBehind[a], b, it);
            rightAhead[b] = withBit(rightAhead[b], a, it);
        }

        boolean mayComeAfter(int leaf, int earlier) {
            return ((behind[leaf] | rightBehind[leaf]) & earlier) == 0;
        }

        /** Those of the earlier leaves that may be right ahead of a leaf put behind them all. */
        int neighboursOf(int leaf, int earlier) {
            int needed = rightAhead[leaf] & earlier;
            if (needed == 0) {
                return earlier;
            }
            return Integer.bitCount(needed) == 1 ? needed : 0;
        }

        private static int withBit(int set, int leaf, boolean it) {
            return it ? set | 1 << leaf : set & ~(1 << leaf);
        }
    }

    /** The least costs of all sets of leaves, built up from the front by the leaf that is last. */
    private static final class Search {
        final Rules rules;
        final int[] joins = new int[STANDS * STANDS];
        // By set and last stand. A question about a pair fills it anew, so that what other
        // questions need is taken out of it as soon as it is filled.
        final int[] least = new int[SETS * STANDS];
        final int[] setCosts = new int[SETS];
        final int[] order = new int[MOST_LEAVES];
        int count;
        int turnCost;
        int bestCost;
        int nextCost;

        Search(Rules rules) {
            this.rules = rules;
        }

        void prepare(Scale scale, boolean mayTurn) {
            count = scale.pile.count;
            turnCost = mayTurn ? scale.sizes[TURN] : FAR;
            for (int a = 0; a < 2 * count; a++) {
                for (int b = 0; b < 2 * count; b++) {
                    joins[a * STANDS + b] = scale.joinCost(a, b);
                }
            }
        }

        void solve() {
            fill(NONE, NONE);
            setCosts[0] = 0;
            for (int set = 1; set <= all(); set++) {
                setCosts[set] = leastOf(set);
            }
            bestCost = setCosts[all()];
            nextCost = FAR;
            if (bestCost < FAR) {
                trace();
            }
        }

        boolean isSure(int a, int b, int d) {
            if (!isInBest(a, b)) {
                return false;
            }
            if (nextCost > bestCost + d) {
                return true;
            }
            fill(a, b);
            return leastOf(all()) > bestCost + d;
        }

        int all() {
            return (1 << count) - 1;
        }

        /** Fills the costs of all orders but those in which bannedB is right behind bannedA. */
        private void fill(int bannedA, int bannedB) {
            for (int set = 1; set <= all(); set++) {
                for (int leaf = 0; leaf < count; leaf++) {
                    if ((set >> leaf & 1) != 0) {
                        int rest = set & ~(1 << leaf);
                        int ahead = rules.neighboursOf(leaf, rest);
                        if (leaf == bannedB) {
                            ahead &= ~(1 << bannedA);
                        }
                        fillLast(set, leaf, ahead);
                    }
                }
            }
        }

        private void fillLast(int set, int leaf, int ahead) {
            int rest = set & ~(1 << leaf);
            int stand = 2 * leaf;
            int plain = FAR;
            int turned = FAR;
            if (rules.mayComeAfter(leaf, rest)) {
                plain = leastUpTo(rest, ahead, stand);
                if (turnCost < FAR) {
                    turned = Math.min(FAR, leastUpTo(rest, ahead, stand + 1) + turnCost);
                }
            }
            least[set * STANDS + stand] = plain;
            least[set * STANDS + stand + 1] = turned;
        }

        /** The least cost of an order of the rest, one of the leaves ahead last, and the join. */
        private int leastUpTo(int rest, int ahead, int stand) {
            if (rest == 0) {
                return 0;
            }
            int cost = FAR;
            for (int leaf = 0; leaf < count; leaf++) {
                if ((ahead >> leaf & 1) != 0) {
                    int plain = 2 * leaf;
                    int row = rest * STANDS + plain;
                    int link = plain * STANDS + stand;
                    cost = Math.min(cost, least[row] + joins[link]);
                    cost = Math.min(cost, least[row + 1] + joins[link + STANDS]);
                }
            }
            return cost;
        }

        private int leastOf(int set) {
            int cost = FAR;
            for (int stand = 0; stand < 2 * count; stand++) {
                if ((set >> (stand >> 1) & 1) != 0) {
                    cost = Math.min(cost, least[set * STANDS + stand]);
                }
            }
            return cost;
        }

        /**
         * Finds the best order from its last leaf on. Any other order parts from it at some place,
         * seen from the end, so that the next one's cost is the least of all such partings.
         */
        private void trace() {
            int set = all();
            int behind = NONE;
            int tail = 0;
            for (int place = count - 1; place >= 0; place--) {
                int stand = pick(set, behind, tail);
                order[place] = stand;
                tail += linkCost(stand, behind) + (stand & 1) * turnCost;
                set &= ~(1 << (stand >> 1));
                behind = stand;
            }
        }

        /** The stand that ends the set in the best order; the others count for the next one. */
        private int pick(int set, int behind, int tail) {
            int ends = behind == NONE ? set : rules.neighboursOf(behind >> 1, set);
            int picked = 0;
            int pickedCost = FAR;
            for (int stand = 0; stand < 2 * count; stand++) {
                if ((ends >> (stand >> 1) & 1) != 0) {
                    int cost = least[set * STANDS + stand] + linkCost(stand, behind) + tail;
                    if (cost < pickedCost) {
                        nextCost = Math.min(nextCost, pickedCost);
                        picked = stand;
                        pickedCost = cost;
                    } else {
                        nextCost = Math.min(nextCost, cost);
                    }
                }
            }
            return picked;
        }

        private int linkCost(int stand, int behind) {
            return behind == NONE ? 0 : joins[stand * STANDS + behind];
        }

        private boolean isInBest(int a, int b) {
            for (int place = 1; place < count; place++) {
                if (order[place - 1] >> 1 == a && order[place] >> 1 == b) {
                    return true;
                }
            }
            return false;
        }
    }

    /** The leaves parted into two books. */
    private static final class Books {
        final Search search;
        int cost;
        int other;

        Books(Search search) {
            this.search = search;
        }

        void part() {
            cost = FAR;
            other = 0;
            // Leaf 0 is never in the other book, so that the odd numbers are left out.
            for (int set = 2; set <= search.all(); set += 2) {
                int together = costOf(set);
                if (together < cost) {
                    cost = together;
                    other = set;
                }
            }
        }

        int leastWithMoved(int leaf) {
            int found = FAR;
            for (int set = 2; set <= search.all(); set += 2) {
                if (((set ^ other) >> leaf & 1) != 0) {
                    found = Math.min(found, costOf(set));
                }
            }
            return found;
        }

        private int costOf(int set) {
            return search.setCosts[set] + search.setCosts[search.all() & ~set];
        }
    }
}
