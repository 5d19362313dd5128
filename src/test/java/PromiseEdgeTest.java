import java.util.function.Supplier;
import java.util.function.ToIntFunction;

/** What each promise refuses and where it ends, a test for each sentence. */
public final class PromiseEdgeTest {
    private static final Due DUE = new Due("PromiseEdgeTest");
    private static final int LOW = Integer.MIN_VALUE;
    private static final int HIGH = Integer.MAX_VALUE;
    // No leaves, though a shift or a product that wraps around makes some of them look like one.
    private static final int[] NO_LEAVES = {-1, 9, 10, 18, 31, 32, 33, 64, 256, 1 << 16, 1 << 30,
        (1 << 30) + 1, -(1 << 30), -32, LOW, LOW + 1, HIGH};
    private static final int[] NO_MARKS = {-1, 100, 127, 128, 256, 1 << 16, LOW, HIGH};
    private static final int[] NO_D = {-1, 1001, -1000, 1 << 16, LOW, HIGH - 1, HIGH};

    public static void main(String[] args) {
        newObject();
        leafNumbers();
        leafWithoutMarks();
        leafForOthers();
        leafIfThereAreNine();
        catchwordNone();
        catchwordForOthers();
        cutAtBothEnds();
        cutForOthers();
        stainSizes();
        stainForOthers();
        weightsTaken();
        weightsForOthers();
        turnable();
        mustHolds();
        mustNotAnyMore();
        mustNoSuchOnes();
        mustTheSame();
        joinWithoutTurn();
        joinNoSuchLeaves();
        joinTheSame();
        joinTurned();
        bestAfterEachChange();
        bestNone();
        atPlaces();
        atMissing();
        atForOthers();
        atWithout();
        nextNone();
        sureEdgesOfD();
        sureNoSuchLeaves();
        sureTheSame();
        sureAnotherD();
        sureNoOrder();
        twoFewerThanTwo();
        twoNoneIsSo();
        bookEdges();
        bookForOthers();
        bookWithout();
        doubtEdgesOfD();
        doubtForOthers();
        doubtWithout();
        aboutEdges();
        aboutForOthers();
        DUE.end();
    }

    /** The call answers so, and neither now nor after one more leaf can it be seen that it was. */
    private static void refused(String call, int want, Supplier<LeafOrder> state,
            ToIntFunction<LeafOrder> it) {
        LeafOrder with = state.get();
        LeafOrder without = state.get();
        DUE.is(call, it.applyAsInt(with), want);
        DUE.yes(call + " changes nothing", State.seen(with).equals(State.seen(without)));
        if (without.about(0) < 9) {
            with.leaf(31, 33, 35, 37);
            without.leaf(31, 33, 35, 37);
            DUE.yes(call + " leaves nothing behind", State.seen(with).equals(State.seen(without)));
        }
    }

    private static void refused(String call, Supplier<LeafOrder> state,
            ToIntFunction<LeafOrder> it) {
        refused(call, -1, state, it);
    }

    /** For calls that answer true or false. */
    private static void denied(String call, Supplier<LeafOrder> state, Denial it) {
        refused(call, 0, state, x -> it.on(x) ? 1 : 0);
    }

    private interface Denial {
        boolean on(LeafOrder x);
    }

    private static LeafOrder none() {
        return new LeafOrder();
    }

    private static LeafOrder three() {
        return State.marked(3);
    }

    private static LeafOrder nine() {
        return State.marked(9);
    }

    private static void newObject() {
        DUE.sentence("1: No LEAVES.");
        LeafOrder x = none();
        DUE.is("about(0)", x.about(0), 0);
        DUE.is("best()", x.best(), 0);
        DUE.is("next()", x.next(), -1);
        DUE.is("two()", x.two(), -1);
        DUE.is("at(0, 0)", x.at(0, 0), -1);
        DUE.is("book(0)", x.book(0), -1);
        denied("catchword", PromiseEdgeTest::none, y -> y.catchword(0, 0, 0));
        denied("no catchword", PromiseEdgeTest::none, y -> y.catchword(0, 0, -1));
        denied("cut", PromiseEdgeTest::none, y -> y.cut(0, 0, 1, 1));
        denied("stain", PromiseEdgeTest::none, y -> y.stain(0, 0, 1));
        denied("must", PromiseEdgeTest::none, y -> y.must(0, 1, false, true));
        refused("join", PromiseEdgeTest::none, y -> y.join(0, false, 1, false));
        refused("sure", PromiseEdgeTest::none, y -> y.sure(0, 1, 0));
        refused("doubt", PromiseEdgeTest::none, y -> y.doubt(1, 0));
    }

    private static void leafNumbers() {
        DUE.sentence("2: its number");
        LeafOrder x = none();
        for (int k = 0; k < 9; k++) {
            DUE.is("leaf", x.leaf(k, 0, 99, 0), k);
            DUE.is("about(0)", x.about(0), k + 1);
            DUE.is("a wrong one takes no number", x.leaf(k, 0, 100, 0), -1);
        }
    }

    private static void leafWithoutMarks() {
        DUE.sentence("2: no CATCHWORDS, CUTS, STAINS");
        LeafOrder x = none();
        x.weights(0, 9, 99, 99, 0, 0);
        for (int k = 0; k < 9; k++) {
            for (int side = 0; side < 2; side++) {
                x.catchword(k, side, 50);
                x.cut(k, side, 1, 2);
            }
            x.stain(k, k % 3, 5);
            x.must(k, 0, false, true);
            x.leaf(0, 0, 1, 0);
        }
        for (int k = 1; k < 9; k++) {
            DUE.is("as they are", x.join(k - 1, false, k, false), 0);
            DUE.is("turned", x.join(k, true, k - 1, true), 0);
        }
        DUE.is("none is bound: leaf 0 is last", x.at(8, 0), 0);
    }

    private static void leafForOthers() {
        DUE.sentence("2: NONE for others");
        for (int w : NO_MARKS) {
            refused("begin " + w, PromiseEdgeTest::three, x -> x.leaf(w, 1, 2, 3));
            refused("end " + w, PromiseEdgeTest::three, x -> x.leaf(1, w, 2, 3));
            refused("otherBegin " + w, PromiseEdgeTest::three, x -> x.leaf(1, 2, w, 3));
            refused("otherEnd " + w, PromiseEdgeTest::three, x -> x.leaf(1, 2, 3, w));
            refused("all " + w, PromiseEdgeTest::none, x -> x.leaf(w, w, w, w));
        }
    }

    private static void leafIfThereAreNine() {
        DUE.sentence("2: or if there are 9");
        refused("a tenth", PromiseEdgeTest::nine, x -> x.leaf(0, 0, 0, 0));
        refused("a tenth with the most", PromiseEdgeTest::nine, x -> x.leaf(99, 99, 99, 99));
        refused("a tenth that is wrong", PromiseEdgeTest::nine, x -> x.leaf(100, 0, 0, 0));
        LeafOrder x = nine();
        for (int k = 0; k < 400; k++) {
            DUE.is("one more", x.leaf(1, 1, 1, 1), -1);
        }
        DUE.is("still nine", x.about(0), 9);
    }

    private static void catchwordNone() {
        DUE.sentence("3: (NONE: none): true");
        LeafOrder x = State.alike(9);
        for (int leaf = 0; leaf < 9; leaf += 8) {
            int b = 8 - leaf;
            DUE.yes("where there is none", x.catchword(leaf, 1, LeafOrder.NONE));
            DUE.is("none", x.join(leaf, false, b, false), 0);
            DUE.yes("a word", x.catchword(leaf, 1, 1));
            DUE.is("a word", x.join(leaf, false, b, false), 20);
            DUE.yes("the side's word goes", x.catchword(leaf, 1, LeafOrder.NONE));
            DUE.is("none again", x.join(leaf, false, b, false), 0);
            DUE.yes("the other side", x.catchword(leaf, 0, 1));
            DUE.is("side 0 is another", x.join(leaf, false, b, false), 0);
            DUE.is("side 0 is last if turned", x.join(leaf, true, b, false), 20);
        }
    }

    private static void catchwordForOthers() {
        DUE.sentence("3: False for others.");
        for (int w : NO_LEAVES) {
            denied("leaf " + w, PromiseEdgeTest::nine, x -> x.catchword(w, 0, 1));
            denied("side " + w, PromiseEdgeTest::three, x -> x.catchword(2, w, 1));
        }
        denied("leaf 3 of three", PromiseEdgeTest::three, x -> x.catchword(3, 0, 1));
        denied("leaf 3 of three, none", PromiseEdgeTest::three, x -> x.catchword(3, 0, -1));
        denied("side 2", PromiseEdgeTest::three, x -> x.catchword(1, 2, 1));
        denied("side 2, none", PromiseEdgeTest::three, x -> x.catchword(1, 2, -1));
        for (int w : NO_MARKS) {
            int word = w == -1 ? -2 : w;
            denied("word " + word, PromiseEdgeTest::three, x -> x.catchword(0, 0, word));
            denied("word " + word, PromiseEdgeTest::nine, x -> x.catchword(8, 1, word));
        }
    }

    private static void cutAtBothEnds() {
        DUE.sentence("4: at its begin, at its end: true");
        LeafOrder x = State.alike(9);
        DUE.yes("the last leaf's last side", x.cut(8, 1, 0, 99));
        DUE.is("its end", x.join(8, false, 0, false), 10);
        DUE.is("its begin is none", x.join(0, false, 8, true), 0);
        DUE.yes("the first leaf's first side", x.cut(0, 0, 99, 0));
        DUE.is("the same", x.join(8, false, 0, false), 0);
        DUE.yes("both go", x.cut(8, 1, 0, 0));
        DUE.is("one is left", x.join(8, false, 0, false), 10);
    }

    private static void cutForOthers() {
        DUE.sentence("4: False, changing nothing, for others.");
        for (int w : NO_LEAVES) {
            denied("leaf " + w, PromiseEdgeTest::nine, x -> x.cut(w, 0, 1, 2));
            denied("side " + w, PromiseEdgeTest::three, x -> x.cut(2, w, 1, 2));
        }
        denied("leaf 3 of three", PromiseEdgeTest::three, x -> x.cut(3, 0, 1, 2));
        denied("side 2", PromiseEdgeTest::three, x -> x.cut(1, 2, 1, 2));
        for (int w : NO_MARKS) {
            denied("begin " + w, PromiseEdgeTest::three, x -> x.cut(0, 0, w, 5));
            denied("end " + w, PromiseEdgeTest::three, x -> x.cut(0, 0, 5, w));
            denied("both " + w, PromiseEdgeTest::nine, x -> x.cut(8, 1, w, w));
        }
    }

    private static void stainSizes() {
        DUE.sentence("5: A STAIN's size (k 0 .. 2): true");
        LeafOrder x = State.alike(9);
        x.weights(0, 1, 0, 0, 0, 0);
        for (int k = 0; k < 3; k++) {
            DUE.yes("the last leaf, most", x.stain(8, k, 99));
            DUE.is("from it", x.join(8, false, 0, true), 99);
            DUE.is("to it", x.join(7, true, 8, false), 99);
            DUE.is("not to others", x.join(7, true, 0, false), 0);
            DUE.yes("least", x.stain(8, k, 0));
            DUE.is("none", x.join(8, false, 0, true), 0);
        }
    }

    private static void stainForOthers() {
        DUE.sentence("5: False for others.");
        for (int w : NO_LEAVES) {
            denied("leaf " + w, PromiseEdgeTest::nine, x -> x.stain(w, 0, 1));
            denied("k " + w, PromiseEdgeTest::three, x -> x.stain(1, w, 1));
        }
        denied("leaf 3 of three", PromiseEdgeTest::three, x -> x.stain(3, 0, 1));
        denied("k 3", PromiseEdgeTest::three, x -> x.stain(1, 3, 1));
        denied("k 3 of the last", PromiseEdgeTest::nine, x -> x.stain(8, 3, 1));
        denied("k -1 of the second", PromiseEdgeTest::three, x -> x.stain(1, -1, 1));
        for (int w : NO_MARKS) {
            denied("size " + w, PromiseEdgeTest::three, x -> x.stain(1, 0, w));
            denied("size " + w, PromiseEdgeTest::nine, x -> x.stain(8, 2, w));
        }
    }

    private static boolean put(LeafOrder x, int[] w) {
        return x.weights(w[0], w[1], w[2], w[3], w[4], w[5]);
    }

    private static void weightsTaken() {
        DUE.sentence("6: WEIGHTS: true");
        int[] most = {9, 9, 99, 99, 99, 999};
        for (int k = 0; k < 6; k++) {
            LeafOrder x = none();
            int[] w = {1, 2, 3, 4, 5, 6};
            w[k] = most[k];
            DUE.yes("most at " + k, put(x, w));
            for (int what = 1; what <= 6; what++) {
                DUE.is("about(" + what + ")", x.about(what), w[what - 1]);
            }
            w[k] = 0;
            DUE.yes("least at " + k, put(x, w));
            DUE.is("about it", x.about(k + 1), 0);
        }
        LeafOrder x = none();
        DUE.yes("all most", put(x, most));
        DUE.yes("all least", put(x, new int[6]));
    }

    private static void weightsForOthers() {
        DUE.sentence("6: False, changing nothing, for others.");
        int[] most = {9, 9, 99, 99, 99, 999};
        for (int k = 0; k < 6; k++) {
            int[] wrong = {-1, most[k] + 1, 1 << 16, LOW, HIGH};
            for (int w : wrong) {
                int[] args = {6, 5, 4, 3, 2, 1};
                args[k] = w;
                denied(w + " at " + k, PromiseEdgeTest::three, x -> put(x, args));
                denied(w + " at " + k, PromiseEdgeTest::none, x -> put(x, args));
            }
        }
    }

    private static void turnable() {
        DUE.sentence("7: Whether LEAVES may be TURNED.");
        LeafOrder x = State.alike(1);
        DUE.is("it may", x.next(), 30);
        x.turnable(true);
        DUE.is("it may as before", x.next(), 30);
        x.turnable(false);
        DUE.is("it may not", x.next(), -1);
        x.turnable(false);
        DUE.is("it may not as before", x.next(), -1);
        x.turnable(true);
        DUE.is("it may again", x.next(), 30);
        LeafOrder y = none();
        y.turnable(false);
        y.leaf(0, 0, 0, 50);
        y.leaf(0, 0, 50, 0);
        DUE.is("said before there were leaves", y.best(), 0);
        DUE.is("in the order 1 0", y.at(0, 0), 1);
        DUE.is("with the other the next", y.next(), 50);
    }

    private static void mustHolds() {
        DUE.sentence("8: AHEAD (joined false), or JOINED, holds of two LEAVES");
        LeafOrder x = State.alike(9);
        DUE.yes("the last and the first", x.must(0, 8, false, true));
        DUE.is("0 isn't last", x.at(8, 0), 1);
        DUE.yes("it held already", x.must(0, 8, false, true));
        DUE.is("as before", x.at(8, 0), 1);
        DUE.yes("right behind", x.must(0, 8, true, true));
        DUE.is("8 last of these", x.sure(0, 8, 1000), 1);
        DUE.yes("the other way too", x.must(8, 0, true, true));
        DUE.is("no order then", x.best(), -1);
    }

    private static void mustNotAnyMore() {
        DUE.sentence("8: or not any more: true");
        LeafOrder x = State.alike(9);
        DUE.yes("what never held", x.must(0, 8, false, false));
        DUE.yes("what never held, joined", x.must(0, 8, true, false));
        DUE.is("free", x.at(8, 0), 0);
        x.must(0, 8, false, true);
        x.must(0, 8, true, true);
        DUE.yes("the other way", x.must(8, 0, false, false));
        DUE.yes("the other way, joined", x.must(8, 0, true, false));
        DUE.is("both hold", x.sure(0, 8, 1000), 1);
        DUE.yes("ahead", x.must(0, 8, false, false));
        DUE.is("joined holds", x.sure(0, 8, 1000), 1);
        DUE.yes("ahead once more", x.must(0, 8, false, true));
        DUE.yes("joined", x.must(0, 8, true, false));
        DUE.is("joined no more", x.sure(0, 8, 1000), 0);
        DUE.is("ahead holds", x.at(8, 0), 1);
        DUE.yes("ahead at last", x.must(0, 8, false, false));
        DUE.is("free again", x.at(8, 0), 0);
    }

    private static void mustNoSuchOnes() {
        DUE.sentence("8: False: no such ones");
        for (int w : NO_LEAVES) {
            for (int flags = 0; flags < 4; flags++) {
                boolean joined = flags < 2;
                boolean it = flags % 2 == 0;
                denied("a " + w, PromiseEdgeTest::nine, x -> x.must(w, 0, joined, it));
                denied("b " + w, PromiseEdgeTest::nine, x -> x.must(8, w, joined, it));
            }
        }
        denied("a 3 of three", PromiseEdgeTest::three, x -> x.must(3, 0, false, true));
        denied("b 3 of three", PromiseEdgeTest::three, x -> x.must(0, 3, true, true));
        denied("both", PromiseEdgeTest::three, x -> x.must(3, 4, true, true));
        denied("it held: 0 and 2", PromiseEdgeTest::three, x -> x.must(32, 34, false, false));
    }

    private static void mustTheSame() {
        DUE.sentence("8: or the same");
        for (int leaf = 0; leaf < 9; leaf += 4) {
            int same = leaf;
            denied("ahead", PromiseEdgeTest::nine, x -> x.must(same, same, false, true));
            denied("joined", PromiseEdgeTest::nine, x -> x.must(same, same, true, true));
            denied("not ahead", PromiseEdgeTest::nine, x -> x.must(same, same, false, false));
            denied("not joined", PromiseEdgeTest::nine, x -> x.must(same, same, true, false));
        }
    }

    private static void joinWithoutTurn() {
        DUE.sentence("9: THE COST of a JOIN (without TURN)");
        LeafOrder x = State.alike(9);
        x.weights(1, 0, 0, 0, 99, 0);
        DUE.is("both turned", x.join(8, true, 0, true), 0);
        DUE.is("one turned", x.join(0, true, 8, false), 0);
        x.must(0, 8, false, true);
        x.must(8, 0, false, true);
        DUE.is("where no order is", x.join(0, false, 8, false), 0);
    }

    private static void joinNoSuchLeaves() {
        DUE.sentence("9: NONE: no such LEAVES");
        for (int w : NO_LEAVES) {
            refused("a " + w, PromiseEdgeTest::nine, x -> x.join(w, false, 0, false));
            refused("b " + w, PromiseEdgeTest::nine, x -> x.join(8, false, w, true));
        }
        refused("a 3 of three", PromiseEdgeTest::three, x -> x.join(3, false, 0, false));
        refused("b 3 of three", PromiseEdgeTest::three, x -> x.join(0, true, 3, true));
    }

    private static void joinTheSame() {
        DUE.sentence("9: the same");
        for (int leaf = 0; leaf < 9; leaf += 4) {
            int same = leaf;
            refused("as it is", PromiseEdgeTest::nine, x -> x.join(same, false, same, false));
            refused("b turned", PromiseEdgeTest::nine, x -> x.join(same, false, same, true));
            refused("a turned", PromiseEdgeTest::nine, x -> x.join(same, true, same, false));
            refused("both turned", PromiseEdgeTest::nine, x -> x.join(same, true, same, true));
        }
    }

    private static void joinTurned() {
        DUE.sentence("9: or one is TURNED that may not be");
        LeafOrder x = State.chain(2);
        x.turnable(false);
        DUE.is("neither", x.join(0, false, 1, false), 0);
        DUE.is("a", x.join(0, true, 1, false), -1);
        DUE.is("b", x.join(0, false, 1, true), -1);
        DUE.is("both", x.join(0, true, 1, true), -1);
        x.turnable(true);
        DUE.is("a may be", x.join(0, true, 1, false), 5);
        DUE.is("b may be", x.join(0, false, 1, true), 5);
        DUE.is("both may be", x.join(0, true, 1, true), 10);
    }

    private static void bestAfterEachChange() {
        DUE.sentence("10: THE BEST's COST.");
        LeafOrder x = State.alike(1);
        DUE.is("one leaf", x.best(), 0);
        x.leaf(50, 0, 50, 0);
        x.must(0, 1, true, true);
        DUE.is("a second one, joined", x.best(), 50);
        x.catchword(0, 1, 0);
        x.catchword(0, 0, 0);
        DUE.is("catchwords", x.best(), 70);
        x.cut(0, 1, 0, 1);
        x.cut(0, 0, 0, 1);
        DUE.is("cuts", x.best(), 80);
        x.weights(9, 9, 99, 99, 99, 0);
        DUE.is("weights", x.best(), 450 + 99 + 99);
        for (int k = 0; k < 3; k++) {
            x.stain(0, k, 99);
        }
        DUE.is("stains", x.best(), 450 + 99 + 99 + 27 * 99);
        x.weights(9, 9, 99, 99, 99, 999);
        DUE.is("a gap", x.best(), 999);
        x.must(1, 0, false, true);
        DUE.is("bound", x.best(), -1);
    }

    private static void bestNone() {
        DUE.sentence("10: NONE: there is no ORDER.");
        for (int leaves = 2; leaves <= 9; leaves++) {
            LeafOrder x = State.stuck(leaves);
            DUE.is("best of " + leaves, x.best(), -1);
            x.turnable(false);
            DUE.is("best of " + leaves + " not turned", x.best(), -1);
            x.must(1, 0, false, false);
            DUE.is("freed", x.best(), 0);
        }
        LeafOrder fork = State.chain(9);
        fork.must(0, 8, true, true);
        fork.must(1, 8, true, true);
        DUE.is("one right behind two", fork.best(), -1);
        fork.must(1, 8, true, false);
        fork.must(0, 7, true, true);
        DUE.is("two right behind one", fork.best(), -1);
        LeafOrder ring = State.chain(9);
        for (int k = 0; k < 9; k++) {
            ring.must(k, (k + 1) % 9, true, true);
        }
        DUE.is("a ring of nine", ring.best(), -1);
        ring.must(8, 0, true, false);
        DUE.is("a ring that was opened", ring.best(), 0);
    }

    private static void atPlaces() {
        DUE.sentence("11: THE BEST at place i: 0 its LEAF, 1 whether it is TURNED (1, 0)");
        LeafOrder x = none();
        // Side 0 and side 1 are exchanged in the odd leaves.
        for (int k = 0; k < 9; k++) {
            int a = 10 * k;
            if (k % 2 == 0) {
                x.leaf(a, a + 5, a + 5, a + 10);
            } else {
                x.leaf(a + 5, a + 10, a, a + 5);
            }
        }
        x.weights(9, 0, 0, 0, 1, 0);
        DUE.is("four are turned", x.best(), 4);
        for (int i = 0; i < 9; i++) {
            DUE.is("leaf at " + i, x.at(i, 0), i);
            DUE.is("turned at " + i, x.at(i, 1), i % 2);
        }
    }

    private static void atMissing() {
        DUE.sentence("11: 2 whether one is MISSING ahead of it (1, 0)");
        LeafOrder x = State.chain(3);
        x.leaf(50, 55, 55, 60);
        x.must(2, 3, true, true);
        x.weights(1, 0, 20, 10, 30, 19);
        int[] due = {0, 0, 0, 1};
        for (int i = 0; i < 4; i++) {
            DUE.is("at " + i, x.at(i, 2), due[i]);
        }
        x.weights(1, 0, 20, 10, 30, 20);
        DUE.is("none, where it costs as much", x.at(3, 2), 0);
        LeafOrder y = State.alike(1);
        y.weights(1, 1, 1, 1, 1, 1);
        DUE.is("nothing is ahead of the first", y.at(0, 2), 0);
    }

    private static void atForOthers() {
        DUE.sentence("11: NONE for others");
        for (int what = 0; what < 3; what++) {
            int asked = what;
            for (int w : NO_LEAVES) {
                refused("place " + w, PromiseEdgeTest::nine, x -> x.at(w, asked));
            }
            refused("place 3 of three", PromiseEdgeTest::three, x -> x.at(3, asked));
            refused("place 1 of one", () -> State.chain(1), x -> x.at(1, asked));
        }
        int[] wrong = {-1, 3, 4, 256, 1 << 16, LOW, HIGH};
        for (int w : wrong) {
            refused("what " + w, PromiseEdgeTest::nine, x -> x.at(0, w));
            refused("what " + w, PromiseEdgeTest::nine, x -> x.at(8, w));
        }
    }

    private static void atWithout() {
        DUE.sentence("11: and without");
        LeafOrder x = State.chain(9);
        DUE.is("an order is there", x.at(0, 0), 0);
        x.must(8, 0, false, true);
        x.must(0, 8, true, true);
        for (int i = 0; i < 9; i++) {
            for (int what = 0; what < 3; what++) {
                DUE.is("no order, place " + i, x.at(i, what), -1);
            }
        }
        LeafOrder y = none();
        for (int what = 0; what < 3; what++) {
            DUE.is("no leaves", y.at(0, what), -1);
        }
    }

    private static void nextNone() {
        DUE.sentence("12: NONE: there is none.");
        LeafOrder x = none();
        DUE.is("no leaves", x.next(), -1);
        x.turnable(false);
        DUE.is("no leaves that may be turned", x.next(), -1);
        x.leaf(0, 0, 0, 0);
        DUE.is("one leaf", x.next(), -1);
        LeafOrder nine = State.chain(9);
        nine.turnable(false);
        for (int k = 0; k < 8; k++) {
            nine.must(k, k + 1, k % 2 == 0, true);
        }
        DUE.is("one order of nine", nine.next(), -1);
        DUE.is("it is there", nine.best(), 0);
        nine.turnable(true);
        DUE.is("the first or the last turned", nine.next(), 30 + 5);
        nine.must(8, 0, false, true);
        DUE.is("no order at all", nine.next(), -1);
    }

    /** Leaf 1 ahead of leaf 0 costs 990 and CUT, leaf 0 ahead of leaf 1 nothing. */
    private static LeafOrder dearOtherWay(int cut) {
        LeafOrder x = none();
        x.leaf(99, 0, 0, 50);
        x.leaf(50, 0, 0, 0);
        x.catchword(1, 1, 5);
        x.cut(1, 1, 0, 3);
        x.weights(9, 0, 99, cut, 0, 0);
        x.turnable(false);
        return x;
    }

    private static void sureEdgesOfD() {
        DUE.sentence("13: Whether b right behind a is SURE within d (0 .. 1000; 1, 0)");
        LeafOrder x = dearOtherWay(10);
        DUE.is("the next", x.next(), 1000);
        DUE.is("d 0", x.sure(0, 1, 0), 1);
        DUE.is("d 999", x.sure(0, 1, 999), 1);
        DUE.is("d 1000", x.sure(0, 1, 1000), 0);
        DUE.is("not in the best, d 0", x.sure(1, 0, 0), 0);
        DUE.is("not in the best, d 1000", x.sure(1, 0, 1000), 0);
        LeafOrder y = dearOtherWay(11);
        DUE.is("d 1000, 1001 more", y.sure(0, 1, 1000), 1);
        LeafOrder nine = State.chain(9);
        DUE.is("the last pair of nine", nine.sure(7, 8, 29), 1);
        DUE.is("the first pair of nine", nine.sure(0, 1, 29), 1);
        DUE.is("8 7 at the end", nine.sure(7, 8, 30), 0);
        DUE.is("1 0 at the front", nine.sure(0, 1, 30), 0);
    }

    private static void sureNoSuchLeaves() {
        DUE.sentence("13: NONE: no such LEAVES");
        for (int w : NO_LEAVES) {
            refused("a " + w, PromiseEdgeTest::nine, x -> x.sure(w, 0, 5));
            refused("b " + w, PromiseEdgeTest::nine, x -> x.sure(8, w, 5));
        }
        refused("a 3 of three", PromiseEdgeTest::three, x -> x.sure(3, 0, 0));
        refused("b 3 of three", PromiseEdgeTest::three, x -> x.sure(0, 3, 0));
        refused("one leaf", () -> State.chain(1), x -> x.sure(0, 1, 0));
    }

    private static void sureTheSame() {
        DUE.sentence("13: the same");
        for (int leaf = 0; leaf < 9; leaf += 4) {
            int same = leaf;
            refused("leaf " + leaf, PromiseEdgeTest::nine, x -> x.sure(same, same, 0));
            refused("leaf " + leaf, PromiseEdgeTest::nine, x -> x.sure(same, same, 1000));
        }
        refused("one leaf", () -> State.chain(1), x -> x.sure(0, 0, 0));
    }

    private static void sureAnotherD() {
        DUE.sentence("13: another d");
        for (int d : NO_D) {
            refused("in the best, d " + d, () -> State.chain(3), x -> x.sure(0, 1, d));
            refused("not in it, d " + d, () -> State.chain(3), x -> x.sure(1, 0, d));
            refused("joined, d " + d, PromiseEdgeTest::three, x -> x.sure(2, 1, d));
        }
    }

    private static void sureNoOrder() {
        DUE.sentence("13: or there is no ORDER");
        for (int leaves = 2; leaves <= 9; leaves += 7) {
            int n = leaves;
            refused("0 1", () -> State.stuck(n), x -> x.sure(0, 1, 0));
            refused("1 0", () -> State.stuck(n), x -> x.sure(1, 0, 1000));
        }
        LeafOrder x = State.chain(2);
        DUE.is("an order", x.sure(0, 1, 0), 1);
        x.must(0, 1, true, true);
        x.must(1, 0, true, true);
        DUE.is("no order", x.sure(0, 1, 0), -1);
        x.must(1, 0, true, false);
        DUE.is("an order again", x.sure(0, 1, 0), 1);
    }

    private static void twoFewerThanTwo() {
        DUE.sentence("14: NONE: there are fewer than two LEAVES");
        LeafOrder x = none();
        DUE.is("no leaf", x.two(), -1);
        x.leaf(0, 0, 0, 0);
        DUE.is("one leaf", x.two(), -1);
        x.leaf(99, 99, 99, 99);
        DUE.is("two leaves", x.two(), 0);
    }

    private static void twoNoneIsSo() {
        DUE.sentence("14: or none is so");
        for (int leaves = 3; leaves <= 9; leaves++) {
            LeafOrder x = State.torn(leaves);
            DUE.is("torn, " + leaves, x.two(), -1);
            x.must(0, 2, false, false);
            DUE.yes("2 and 0 behind it", x.two() >= 0);
            DUE.is("1 is apart", x.book(1), 1);
            DUE.is("2 is not", x.book(2), 0);
        }
        DUE.is("two that are stuck can be parted", State.stuck(2).two(), 0);
    }

    private static void bookEdges() {
        DUE.sentence("15: 0 that of LEAF 0, 1 the other");
        LeafOrder x = State.alike(9);
        for (int k = 1; k < 9; k++) {
            x.must(0, k, true, true);
            x.must(k, 0, true, true);
        }
        DUE.is("leaf 0 alone", x.two(), 0);
        for (int k = 0; k < 9; k++) {
            DUE.is("leaf " + k, x.book(k), k == 0 ? 0 : 1);
        }
    }

    private static void bookForOthers() {
        DUE.sentence("15: NONE for others");
        for (int w : NO_LEAVES) {
            refused("leaf " + w, PromiseEdgeTest::nine, x -> x.book(w));
        }
        refused("leaf 3 of three", PromiseEdgeTest::three, x -> x.book(3));
        refused("leaf 2 of two", () -> State.chain(2), x -> x.book(2));
    }

    private static void bookWithout() {
        DUE.sentence("15: and without");
        refused("no leaves", PromiseEdgeTest::none, x -> x.book(0));
        refused("one leaf", () -> State.chain(1), x -> x.book(0));
        for (int leaf = 0; leaf < 3; leaf++) {
            int asked = leaf;
            refused("torn, leaf " + leaf, () -> State.torn(3), x -> x.book(asked));
        }
        refused("torn, leaf 8", () -> State.torn(9), x -> x.book(8));
        DUE.is("stuck, but two books are there", State.stuck(9).book(0), 0);
    }

    /** Leaf 1 fits behind leaf 0; behind leaf 2 it costs 990 and CUT; 0 and 2 are never together. */
    private static LeafOrder dearOtherBook(int cut) {
        LeafOrder x = none();
        x.leaf(0, 0, 0, 99);
        x.leaf(99, 0, 0, 0);
        x.leaf(0, 0, 0, 0);
        x.catchword(2, 1, 5);
        x.cut(2, 1, 0, 3);
        x.weights(9, 0, 99, cut, 0, 0);
        x.turnable(false);
        x.must(2, 1, false, true);
        x.must(0, 2, false, true);
        x.must(2, 0, false, true);
        return x;
    }

    private static void doubtEdgesOfD() {
        DUE.sentence("16: Whether a LEAF (not LEAF 0) is in DOUBT within d (0 .. 1000; 1, 0)");
        LeafOrder x = dearOtherBook(10);
        DUE.is("0 1, and 2", x.two(), 0);
        DUE.is("d 0", x.doubt(1, 0), 0);
        DUE.is("d 999", x.doubt(1, 999), 0);
        DUE.is("d 1000", x.doubt(1, 1000), 1);
        DUE.is("2 has no other book", x.doubt(2, 1000), 0);
        LeafOrder y = dearOtherBook(11);
        DUE.is("d 1000, 1001 more", y.doubt(1, 1000), 0);
        DUE.is("two leaves, neither set empty", State.alike(2).doubt(1, 1000), 0);
        LeafOrder nine = State.alike(9);
        DUE.is("the last of nine", nine.doubt(8, 0), 1);
        DUE.is("the second of nine", nine.doubt(1, 0), 1);
    }

    private static void doubtForOthers() {
        DUE.sentence("16: NONE for others");
        refused("leaf 0", PromiseEdgeTest::nine, x -> x.doubt(0, 5));
        refused("leaf 0 of two", () -> State.chain(2), x -> x.doubt(0, 0));
        for (int w : NO_LEAVES) {
            refused("leaf " + w, PromiseEdgeTest::nine, x -> x.doubt(w, 5));
        }
        refused("leaf 3 of three", PromiseEdgeTest::three, x -> x.doubt(3, 5));
        for (int d : NO_D) {
            refused("d " + d, PromiseEdgeTest::nine, x -> x.doubt(8, d));
            refused("d " + d, PromiseEdgeTest::three, x -> x.doubt(1, d));
        }
    }

    private static void doubtWithout() {
        DUE.sentence("16: and without TWO BOOKS");
        refused("no leaves", PromiseEdgeTest::none, x -> x.doubt(1, 5));
        refused("one leaf", () -> State.chain(1), x -> x.doubt(1, 5));
        for (int leaf = 1; leaf < 9; leaf++) {
            int asked = leaf;
            refused("torn, leaf " + leaf, () -> State.torn(9), x -> x.doubt(asked, 1000));
        }
        DUE.is("stuck, but two books are there", State.stuck(2).doubt(1, 0), 0);
    }

    private static void aboutEdges() {
        DUE.sentence("17: 0 LEAVES, 1 .. 6 WEIGHTS as weights() takes them, 7 whether they may be");
        LeafOrder x = State.chain(9);
        x.weights(9, 8, 99, 98, 97, 999);
        int[] due = {9, 9, 8, 99, 98, 97, 999, 1};
        for (int what = 0; what < 8; what++) {
            DUE.is("about(" + what + ")", x.about(what), due[what]);
        }
        x.turnable(false);
        DUE.is("about(7)", x.about(7), 0);
    }

    private static void aboutForOthers() {
        DUE.sentence("17: NONE for others.");
        int[] wrong = {-1, 8, 9, -7, 256, 1 << 16, LOW, LOW + 1, HIGH};
        for (int w : wrong) {
            refused("about(" + w + ")", PromiseEdgeTest::none, x -> x.about(w));
            refused("about(" + w + ")", PromiseEdgeTest::nine, x -> x.about(w));
        }
    }
}
