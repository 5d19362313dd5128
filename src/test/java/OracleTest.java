import java.util.Random;

/** Runs of calls drawn from fixed seeds, each answer held against one found by trying all orders. */
public final class OracleTest {
    private static final Due DUE = new Due("OracleTest");

    private final Random dice;
    private final int range;
    private final LeafOrder program = new LeafOrder();
    private final Oracle oracle = new Oracle();
    private int calls;

    private OracleTest(long seed) {
        dice = new Random(seed);
        // Narrow marks make many orders cost alike, wide ones few.
        range = dice.nextBoolean() ? 4 : 100;
    }

    public static void main(String[] args) {
        for (int seed = 0; seed < 900; seed++) {
            new OracleTest(seed).mixedRun(1 + seed % 5);
        }
        for (int seed = 0; seed < 6; seed++) {
            new OracleTest(1000 + seed).oneBook(6, true);
            new OracleTest(2000 + seed).oneBook(8, false);
        }
        new OracleTest(3001).oneBook(7, true);
        new OracleTest(3002).oneBook(9, false);
        new OracleTest(3003).oneBook(9, false);
        DUE.end();
    }

    private void mixedRun(int leaves) {
        askAll();
        for (int step = 0; step < 12 && calls < 400; step++) {
            if (oracle.size() < leaves) {
                addLeaf();
            }
            int changes = dice.nextInt(4);
            for (int k = 0; k < changes; k++) {
                change();
            }
            if (dice.nextInt(3) == 0) {
                wrongChange();
            }
            askAll();
        }
    }

    private void oneBook(int leaves, boolean turnable) {
        for (int k = 0; k < leaves; k++) {
            addLeaf();
        }
        for (int k = 0; k < 2 * leaves; k++) {
            change();
        }
        program.turnable(turnable);
        oracle.mayTurn = turnable;
        askAll();
    }

    private int mark() {
        return dice.nextInt(range);
    }

    private int someLeaf() {
        return dice.nextInt(oracle.size());
    }

    private void addLeaf() {
        int a = mark();
        int b = mark();
        int c = mark();
        int d = mark();
        DUE.is("leaf", program.leaf(a, b, c, d), oracle.leaf(a, b, c, d));
    }

    private void change() {
        int leaf = someLeaf();
        int side = dice.nextInt(2);
        switch (dice.nextInt(7)) {
            case 0 -> {
                int word = dice.nextInt(range + 1) - 1;
                DUE.yes("catchword", program.catchword(leaf, side, word));
                oracle.words.get(leaf)[side] = word < 0 ? null : word;
            }
            case 1 -> {
                int begin = mark();
                int end = mark();
                DUE.yes("cut", program.cut(leaf, side, begin, end));
                oracle.cutBegins.get(leaf)[side] = begin;
                oracle.cutEnds.get(leaf)[side] = end;
            }
            case 2 -> {
                int k = dice.nextInt(3);
                int size = mark();
                DUE.yes("stain", program.stain(leaf, k, size));
                oracle.stains.get(leaf)[k] = size;
            }
            case 3 -> changeWeights();
            case 4 -> {
                oracle.mayTurn = dice.nextInt(3) > 0;
                program.turnable(oracle.mayTurn);
            }
            default -> changeRule(leaf);
        }
    }

    private void changeWeights() {
        oracle.run = dice.nextInt(10);
        oracle.stain = dice.nextInt(3) == 0 ? dice.nextInt(10) : 0;
        oracle.catches = dice.nextInt(100);
        oracle.cut = dice.nextInt(100);
        oracle.turn = dice.nextInt(3) == 0 ? 0 : dice.nextInt(100);
        oracle.gap = dice.nextBoolean() ? 0 : dice.nextInt(dice.nextBoolean() ? 1000 : 20);
        DUE.yes("weights", program.weights(oracle.run, oracle.stain, oracle.catches, oracle.cut,
                oracle.turn, oracle.gap));
    }

    private void changeRule(int a) {
        int b = someLeaf();
        boolean joined = dice.nextInt(3) == 0;
        boolean it = dice.nextInt(3) > 0;
        DUE.is("must", program.must(a, b, joined, it) ? 1 : 0, a == b ? 0 : 1);
        if (a != b) {
            (joined ? oracle.joined : oracle.ahead)[a][b] = it;
        }
    }

    private int wrongMark() {
        int[] wrong = {-1, 100, -2, Integer.MAX_VALUE, Integer.MIN_VALUE};
        return wrong[dice.nextInt(wrong.length)];
    }

    private void wrongChange() {
        int wrong = wrongMark();
        int n = oracle.size();
        DUE.is("leaf", program.leaf(1, 2, wrong, 3), -1);
        DUE.no("catchword", program.catchword(n, 0, 1));
        DUE.no("catchword", program.catchword(0, 1, wrong == -1 ? 100 : wrong));
        DUE.no("cut", program.cut(0, 0, 1, wrong));
        DUE.no("cut", program.cut(0, 0, wrong, 1));
        DUE.no("stain", program.stain(0, 0, wrong));
        DUE.no("weights", program.weights(1, 1, 1, 1, wrong, 1));
        DUE.no("must", program.must(0, n, true, true));
    }

    private static int orNone(int cost) {
        return cost == Oracle.NO_ORDER ? -1 : cost;
    }

    private void askAll() {
        oracle.walkAll();
        int n = oracle.size();
        DUE.is("best", program.best(), orNone(oracle.bestCost));
        DUE.is("next", program.next(), orNone(oracle.nextCost));
        DUE.is("two", program.two(), n < 2 ? -1 : orNone(oracle.twoCost()));
        calls += 3;
        askPlaces(n);
        if (n >= 2) {
            askPairs(n);
            askBooks(n);
        }
        // A question about a pair must leave the others' answers as they were.
        DUE.is("best again", program.best(), orNone(oracle.bestCost));
        DUE.is("next again", program.next(), orNone(oracle.nextCost));
        calls += 2;
    }

    private void askPlaces(int n) {
        for (int i = -1; i <= n; i++) {
            boolean there = oracle.bestLeaves != null && i >= 0 && i < n;
            DUE.is("at leaf", program.at(i, 0), there ? oracle.bestLeaves[i] : -1);
            DUE.is("at turned", program.at(i, 1), there ? (oracle.bestTurned[i] ? 1 : 0) : -1);
            DUE.is("at missing", program.at(i, 2), there ? (missingAhead(i) ? 1 : 0) : -1);
            calls += 3;
        }
    }

    private boolean missingAhead(int i) {
        return i > 0 && oracle.missing(oracle.bestLeaves[i - 1], oracle.bestTurned[i - 1],
                oracle.bestLeaves[i], oracle.bestTurned[i]);
    }

    private void askPairs(int n) {
        for (int k = 0; k < 4; k++) {
            int a = someLeaf();
            int b = (a + 1 + dice.nextInt(n - 1)) % n;
            if (k > 0 && oracle.bestLeaves != null) {
                int i = dice.nextInt(n - 1);
                a = oracle.bestLeaves[i];
                b = oracle.bestLeaves[i + 1];
            }
            askSure(a, b, dice.nextInt(1001));
            if (oracle.bestLeaves != null && oracle.leastWithout[a][b] != Oracle.NO_ORDER) {
                int edge = oracle.leastWithout[a][b] - oracle.bestCost;
                askSure(a, b, edge);
                askSure(a, b, edge - 1);
            }
            boolean turnedA = dice.nextBoolean();
            boolean turnedB = dice.nextBoolean();
            boolean mayNot = (turnedA || turnedB) && !oracle.mayTurn;
            DUE.is("join", program.join(a, turnedA, b, turnedB),
                    mayNot ? -1 : oracle.join(a, turnedA, b, turnedB));
            calls++;
        }
    }

    private void askSure(int a, int b, int d) {
        int want = -1;
        if (d >= 0 && d <= 1000 && oracle.bestLeaves != null) {
            int without = oracle.leastWithout[a][b];
            want = without == Oracle.NO_ORDER || without > oracle.bestCost + d ? 1 : 0;
        }
        DUE.is("sure", program.sure(a, b, d), want);
        calls++;
    }

    private void askBooks(int n) {
        int cost = oracle.twoCost();
        int other = oracle.otherBook();
        for (int leaf = 0; leaf < n; leaf++) {
            boolean none = cost == Oracle.NO_ORDER;
            DUE.is("book", program.book(leaf), none ? -1 : other >> leaf & 1);
            askDoubt(leaf, dice.nextInt(1001), cost);
            int otherwise = leaf == 0 || none ? cost : oracle.partedOtherwise(leaf);
            if (otherwise != Oracle.NO_ORDER) {
                askDoubt(leaf, otherwise - cost, cost);
                askDoubt(leaf, otherwise - cost - 1, cost);
            }
            calls++;
        }
    }

    private void askDoubt(int leaf, int d, int cost) {
        int want = -1;
        if (leaf > 0 && d >= 0 && d <= 1000 && cost != Oracle.NO_ORDER) {
            int otherwise = oracle.partedOtherwise(leaf);
            want = otherwise != Oracle.NO_ORDER && otherwise <= cost + d ? 1 : 0;
        }
        DUE.is("doubt", program.doubt(leaf, d), want);
        calls++;
    }
}
