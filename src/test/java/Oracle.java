import java.util.ArrayList;
import java.util.Arrays;
import java.util.List;

/**
 * The document's words said again as plainly as can be: it goes through every order of every set
 * of leaves. Arguments are those that the document takes; wrong ones never reach it.
 */
final class Oracle {
    static final int NO_ORDER = Integer.MAX_VALUE;

    final List<int[]> begins = new ArrayList<>();
    final List<int[]> ends = new ArrayList<>();
    final List<Integer[]> words = new ArrayList<>();
    final List<int[]> cutBegins = new ArrayList<>();
    final List<int[]> cutEnds = new ArrayList<>();
    final List<int[]> stains = new ArrayList<>();
    final boolean[][] ahead = new boolean[9][9];
    final boolean[][] joined = new boolean[9][9];
    int run = 1;
    int stain = 0;
    int catches = 20;
    int cut = 10;
    int turn = 30;
    int gap = 0;
    boolean mayTurn = true;

    // What the last walk through all orders found.
    int[] bestLeaves;
    boolean[] bestTurned;
    int bestCost;
    int nextCost;
    int[][] leastWithout;
    int[] setCosts;

    private int[] orderLeaves;
    private boolean[] orderTurned;
    private boolean wholeBook;
    private int walkLeast;

    int leaf(int begin, int end, int otherBegin, int otherEnd) {
        begins.add(new int[] {begin, otherBegin});
        ends.add(new int[] {end, otherEnd});
        words.add(new Integer[] {null, null});
        cutBegins.add(new int[2]);
        cutEnds.add(new int[2]);
        stains.add(new int[3]);
        return begins.size() - 1;
    }

    int size() {
        return begins.size();
    }

    int full(int a, boolean turnedA, int b, boolean turnedB) {
        int last = turnedA ? 0 : 1;
        int first = turnedB ? 1 : 0;
        int cost = run * Math.abs(begins.get(b)[first] - ends.get(a)[last]);
        Integer word = words.get(a)[last];
        if (word != null && word.intValue() != begins.get(b)[first]) {
            cost += catches;
        }
        if (cutEnds.get(a)[last] != cutBegins.get(b)[first]) {
            cost += cut;
        }
        for (int k = 0; k < 3; k++) {
            cost += stain * Math.abs(stains.get(a)[k] - stains.get(b)[k]);
        }
        return cost;
    }

    boolean missing(int a, boolean turnedA, int b, boolean turnedB) {
        return gap > 0 && full(a, turnedA, b, turnedB) > gap;
    }

    int join(int a, boolean turnedA, int b, boolean turnedB) {
        return missing(a, turnedA, b, turnedB) ? gap : full(a, turnedA, b, turnedB);
    }

    void walkAll() {
        int n = size();
        bestLeaves = null;
        bestTurned = null;
        bestCost = NO_ORDER;
        nextCost = NO_ORDER;
        leastWithout = new int[9][9];
        for (int[] row : leastWithout) {
            Arrays.fill(row, NO_ORDER);
        }
        setCosts = new int[1 << n];
        for (int set = 0; set < 1 << n; set++) {
            int leaves = Integer.bitCount(set);
            orderLeaves = new int[leaves];
            orderTurned = new boolean[leaves];
            wholeBook = set == (1 << n) - 1;
            walkLeast = NO_ORDER;
            walk(set, 0);
            setCosts[set] = walkLeast;
        }
    }

    private void walk(int left, int place) {
        if (left == 0) {
            look();
            return;
        }
        for (int leaf = 0; leaf < size(); leaf++) {
            if ((left >> leaf & 1) == 1) {
                orderLeaves[place] = leaf;
                orderTurned[place] = false;
                walk(left & ~(1 << leaf), place + 1);
                if (mayTurn) {
                    orderTurned[place] = true;
                    walk(left & ~(1 << leaf), place + 1);
                }
            }
        }
    }

    private void look() {
        if (!allowed()) {
            return;
        }
        int cost = cost();
        walkLeast = Math.min(walkLeast, cost);
        if (!wholeBook) {
            return;
        }
        if (bestLeaves == null || cost < bestCost || cost == bestCost && comesFirst()) {
            nextCost = Math.min(nextCost, bestCost);
            bestCost = cost;
            bestLeaves = orderLeaves.clone();
            bestTurned = orderTurned.clone();
        } else {
            nextCost = Math.min(nextCost, cost);
        }
        for (int a = 0; a < size(); a++) {
            for (int b = 0; b < size(); b++) {
                if (a != b && !follows(a, b)) {
                    leastWithout[a][b] = Math.min(leastWithout[a][b], cost);
                }
            }
        }
    }

    private int placeOf(int leaf) {
        for (int i = 0; i < orderLeaves.length; i++) {
            if (orderLeaves[i] == leaf) {
                return i;
            }
        }
        return -1;
    }

    private boolean follows(int a, int b) {
        return placeOf(b) == placeOf(a) + 1;
    }

    private boolean allowed() {
        for (int a : orderLeaves) {
            for (int b : orderLeaves) {
                if (ahead[a][b] && placeOf(a) >= placeOf(b) || joined[a][b] && !follows(a, b)) {
                    return false;
                }
            }
        }
        return true;
    }

    private int cost() {
        int cost = 0;
        for (int i = 0; i < orderLeaves.length; i++) {
            if (orderTurned[i]) {
                cost += turn;
            }
            if (i > 0) {
                cost += join(orderLeaves[i - 1], orderTurned[i - 1], orderLeaves[i], orderTurned[i]);
            }
        }
        return cost;
    }

    private boolean comesFirst() {
        for (int i = orderLeaves.length - 1; i >= 0; i--) {
            if (orderLeaves[i] != bestLeaves[i]) {
                return orderLeaves[i] < bestLeaves[i];
            }
            if (orderTurned[i] != bestTurned[i]) {
                return !orderTurned[i];
            }
        }
        return false;
    }

    /** The cost of two books of which the one without leaf 0 is this set. */
    private int parted(int other) {
        int first = setCosts[(1 << size()) - 1 - other];
        int second = setCosts[other];
        return first == NO_ORDER || second == NO_ORDER ? NO_ORDER : first + second;
    }

    int otherBook() {
        int found = 0;
        int least = NO_ORDER;
        for (int other = 1; other < 1 << size(); other++) {
            if ((other & 1) == 0 && parted(other) < least) {
                least = parted(other);
                found = other;
            }
        }
        return found;
    }

    int twoCost() {
        int other = otherBook();
        return other == 0 ? NO_ORDER : parted(other);
    }

    int partedOtherwise(int leaf) {
        int now = otherBook() >> leaf & 1;
        int least = NO_ORDER;
        for (int other = 1; other < 1 << size(); other++) {
            if ((other & 1) == 0 && (other >> leaf & 1) != now) {
                least = Math.min(least, parted(other));
            }
        }
        return least;
    }
}
