/** The bounds and edges that the document's terms name, a test for each sentence. */
public final class TermsEdgeTest {
    private static final Due DUE = new Due("TermsEdgeTest");

    public static void main(String[] args) {
        leaves();
        sides();
        beginsAndEnds();
        catchwords();
        cuts();
        noCut();
        stains();
        stainsAtFirst();
        smallWeights();
        middleWeights();
        gapWeight();
        weightsAtFirst();
        turnableAtFirst();
        runBothWays();
        wordThatIsNot();
        cutThatIsNot();
        aboveGap();
        noGap();
        turnBesides();
        bothInTheSet();
        emptyOrder();
        lastLeafIsLeast();
        withItAsItIs();
        leafAheadLikewise();
        otherOrders();
        sureWithin();
        neitherEmpty();
        leastNumber();
        doubtWithin();
        DUE.end();
    }

    private static void leaves() {
        DUE.sentence("LEAVES 0 .. 8");
        LeafOrder x = State.alike(8);
        DUE.no("leaf 8 before it is", x.stain(8, 0, 1));
        DUE.is("the ninth leaf", x.leaf(0, 0, 0, 0), 8);
        DUE.yes("leaf 8", x.stain(8, 0, 1));
        DUE.yes("leaf 0", x.stain(0, 0, 1));
        DUE.no("leaf 9", x.stain(9, 0, 1));
        DUE.no("leaf -1", x.stain(-1, 0, 1));
    }

    private static void sides() {
        DUE.sentence("each with two sides, 0 and 1");
        LeafOrder x = State.chain(9);
        for (int leaf = 0; leaf < 9; leaf += 8) {
            DUE.yes("side 0", x.catchword(leaf, 0, 1));
            DUE.yes("side 1", x.catchword(leaf, 1, 1));
            DUE.no("side -1", x.catchword(leaf, -1, 1));
            DUE.no("side 2", x.catchword(leaf, 2, 1));
            DUE.yes("side 0 cut", x.cut(leaf, 0, 1, 1));
            DUE.yes("side 1 cut", x.cut(leaf, 1, 1, 1));
            DUE.no("side -1 cut", x.cut(leaf, -1, 1, 1));
            DUE.no("side 2 cut", x.cut(leaf, 2, 1, 1));
        }
    }

    private static void beginsAndEnds() {
        DUE.sentence("A side has a BEGIN and an END (0 .. 99)");
        LeafOrder x = new LeafOrder();
        DUE.is("all least", x.leaf(0, 0, 0, 0), 0);
        DUE.is("all most", x.leaf(99, 99, 99, 99), 1);
        for (int k = 0; k < 4; k++) {
            DUE.is("one too small", leafWith(x, k, -1), -1);
            DUE.is("one too large", leafWith(x, k, 100), -1);
        }
        DUE.is("least to most", x.join(0, false, 1, false), 99);
        DUE.is("most to least", x.join(1, true, 0, true), 99);
    }

    private static int leafWith(LeafOrder x, int k, int mark) {
        return x.leaf(k == 0 ? mark : 0, k == 1 ? mark : 0, k == 2 ? mark : 0, k == 3 ? mark : 0);
    }

    private static void catchwords() {
        DUE.sentence("a CATCHWORD (0 .. 99) or none");
        LeafOrder x = new LeafOrder();
        x.leaf(0, 0, 0, 0);
        x.leaf(0, 0, 99, 0);
        x.weights(0, 0, 20, 0, 0, 0);
        DUE.is("none", x.join(0, false, 1, true), 0);
        DUE.yes("word 0", x.catchword(0, 1, 0));
        DUE.is("0 is a word, and b begins with 99", x.join(0, false, 1, true), 20);
        DUE.is("b begins with 0", x.join(0, false, 1, false), 0);
        DUE.yes("word 99", x.catchword(0, 1, 99));
        DUE.is("b begins with 99", x.join(0, false, 1, true), 0);
        DUE.is("b begins with 0 instead", x.join(0, false, 1, false), 20);
        DUE.no("word 100", x.catchword(0, 1, 100));
        DUE.no("word -2", x.catchword(0, 1, -2));
        DUE.yes("none again", x.catchword(0, 1, -1));
        DUE.is("none fits all", x.join(0, false, 1, false), 0);
    }

    private static void cuts() {
        DUE.sentence("a CUT at its begin and one at its end (0 .. 99");
        LeafOrder x = State.alike(2);
        DUE.yes("least", x.cut(0, 1, 0, 0));
        DUE.yes("most", x.cut(0, 1, 99, 99));
        DUE.no("begin too small", x.cut(0, 1, -1, 5));
        DUE.no("begin too large", x.cut(0, 1, 100, 5));
        DUE.no("end too small", x.cut(0, 1, 5, -1));
        DUE.no("end too large", x.cut(0, 1, 5, 100));
        x.cut(1, 0, 99, 0);
        DUE.is("99 at both", x.join(0, false, 1, false), 0);
        x.cut(1, 0, 98, 0);
        DUE.is("99 and 98", x.join(0, false, 1, false), 10);
    }

    private static void noCut() {
        DUE.sentence("0: none");
        LeafOrder x = State.alike(2);
        DUE.is("none at both", x.join(0, false, 1, false), 0);
        x.cut(0, 1, 0, 1);
        DUE.is("at a's end alone", x.join(0, false, 1, false), 10);
        x.cut(0, 1, 0, 0);
        DUE.is("none any more", x.join(0, false, 1, false), 0);
        x.cut(1, 0, 1, 0);
        DUE.is("at b's begin alone", x.join(0, false, 1, false), 10);
    }

    private static void stains() {
        DUE.sentence("A LEAF has three STAINS (sizes 0 .. 99");
        LeafOrder x = State.alike(2);
        x.weights(0, 1, 0, 0, 0, 0);
        for (int k = 0; k < 3; k++) {
            DUE.yes("most", x.stain(0, k, 99));
            DUE.is("each counts", x.join(0, false, 1, false), 99 * (k + 1));
        }
        for (int k = 0; k < 3; k++) {
            DUE.no("size -1", x.stain(0, k, -1));
            DUE.no("size 100", x.stain(0, k, 100));
            DUE.yes("least", x.stain(0, k, 0));
            DUE.is("each may go", x.join(0, false, 1, false), 99 * (2 - k));
        }
        DUE.no("a fourth", x.stain(0, 3, 1));
        DUE.no("one ahead of the first", x.stain(0, -1, 1));
    }

    private static void stainsAtFirst() {
        DUE.sentence("at first 0)");
        LeafOrder x = State.alike(9);
        x.weights(0, 9, 0, 0, 0, 0);
        for (int k = 0; k < 3; k++) {
            x.stain(0, k, 1);
            DUE.is("a stain of 1 against none", x.join(0, false, 8, false), 9 * (k + 1));
        }
    }

    private static void smallWeights() {
        DUE.sentence("RUN, STAIN (0 .. 9)");
        LeafOrder x = new LeafOrder();
        DUE.yes("most", x.weights(9, 9, 1, 1, 1, 1));
        DUE.yes("least", x.weights(0, 0, 1, 1, 1, 1));
        DUE.no("run 10", x.weights(10, 0, 1, 1, 1, 1));
        DUE.no("run -1", x.weights(-1, 0, 1, 1, 1, 1));
        DUE.no("stain 10", x.weights(0, 10, 1, 1, 1, 1));
        DUE.no("stain -1", x.weights(0, -1, 1, 1, 1, 1));
    }

    private static void middleWeights() {
        DUE.sentence("CATCH, CUT, TURN (0 .. 99)");
        LeafOrder x = new LeafOrder();
        DUE.yes("most", x.weights(1, 1, 99, 99, 99, 1));
        DUE.yes("least", x.weights(1, 1, 0, 0, 0, 1));
        DUE.no("catch 100", x.weights(1, 1, 100, 0, 0, 1));
        DUE.no("catch -1", x.weights(1, 1, -1, 0, 0, 1));
        DUE.no("cut 100", x.weights(1, 1, 0, 100, 0, 1));
        DUE.no("cut -1", x.weights(1, 1, 0, -1, 0, 1));
        DUE.no("turn 100", x.weights(1, 1, 0, 0, 100, 1));
        DUE.no("turn -1", x.weights(1, 1, 0, 0, -1, 1));
    }

    private static void gapWeight() {
        DUE.sentence("GAP (0 .. 999)");
        LeafOrder x = new LeafOrder();
        DUE.yes("most", x.weights(1, 1, 1, 1, 1, 999));
        DUE.yes("least", x.weights(1, 1, 1, 1, 1, 0));
        DUE.no("gap 1000", x.weights(1, 1, 1, 1, 1, 1000));
        DUE.no("gap -1", x.weights(1, 1, 1, 1, 1, -1));
    }

    private static void weightsAtFirst() {
        DUE.sentence("at first 1, 0, 20, 10, 30, 0");
        LeafOrder x = new LeafOrder();
        int[] first = {1, 0, 20, 10, 30, 0};
        for (int k = 0; k < 6; k++) {
            DUE.is("about(" + (k + 1) + ")", x.about(k + 1), first[k]);
        }
        x.leaf(0, 0, 0, 90);
        DUE.is("TURN", x.next(), 30);
        x.leaf(1, 0, 0, 0);
        DUE.is("RUN, and no GAP", x.join(0, false, 1, false), 89);
        x.stain(0, 0, 99);
        DUE.is("STAIN", x.join(0, false, 1, false), 89);
        x.catchword(0, 1, 0);
        DUE.is("CATCH", x.join(0, false, 1, false), 109);
        x.cut(0, 1, 0, 1);
        DUE.is("CUT", x.join(0, false, 1, false), 119);
    }

    private static void turnableAtFirst() {
        DUE.sentence("LEAVES may be TURNED, or not (at first they may)");
        LeafOrder x = State.chain(2);
        DUE.is("about(7)", x.about(7), 1);
        DUE.is("a join of turned ones", x.join(0, true, 1, true), 10);
        x.turnable(false);
        DUE.is("about(7) then", x.about(7), 0);
        DUE.is("a join of turned ones then", x.join(0, true, 1, true), -1);
    }

    private static void runBothWays() {
        DUE.sentence("RUN times what BEGIN and END differ by");
        LeafOrder x = new LeafOrder();
        x.leaf(40, 40, 40, 40);
        x.leaf(43, 37, 43, 37);
        x.weights(9, 0, 0, 0, 0, 0);
        DUE.is("the begin is larger", x.join(0, false, 1, false), 27);
        DUE.is("the begin is larger here too", x.join(1, false, 0, false), 27);
        x.leaf(37, 43, 37, 43);
        DUE.is("the end is larger", x.join(0, false, 2, false), 27);
        DUE.is("they are the same", x.join(1, false, 2, false), 0);
    }

    private static void wordThatIsNot() {
        DUE.sentence("CATCH, if a's side has a CATCHWORD that isn't b's BEGIN");
        LeafOrder x = new LeafOrder();
        x.leaf(0, 0, 0, 50);
        x.leaf(50, 0, 0, 0);
        x.catchword(0, 1, 50);
        DUE.is("it is", x.join(0, false, 1, false), 0);
        x.catchword(0, 1, 49);
        DUE.is("one less", x.join(0, false, 1, false), 20);
        x.catchword(0, 1, 51);
        DUE.is("one more", x.join(0, false, 1, false), 20);
        x.catchword(0, 1, -1);
        DUE.is("there is none", x.join(0, false, 1, false), 0);
    }

    private static void cutThatIsNot() {
        DUE.sentence("CUT, if the CUT at a's end isn't that at b's begin");
        LeafOrder x = State.alike(2);
        x.cut(0, 1, 1, 2);
        x.cut(0, 0, 3, 4);
        x.cut(1, 0, 2, 1);
        x.cut(1, 1, 4, 3);
        DUE.is("as they are: 2 and 2", x.join(0, false, 1, false), 0);
        DUE.is("both turned: 4 and 4", x.join(0, true, 1, true), 0);
        DUE.is("a turned: 4 and 2", x.join(0, true, 1, false), 10);
        DUE.is("b turned: 2 and 4", x.join(0, false, 1, true), 10);
        DUE.is("the other way: 3 and 3", x.join(1, false, 0, false), 0);
    }

    private static void aboveGap() {
        DUE.sentence("If that is above GAP, and GAP above 0: GAP");
        LeafOrder x = dearPair();
        int[] gaps = {1, 500, 998, 999};
        for (int gap : gaps) {
            x.weights(9, 9, 99, 0, 0, gap);
            DUE.is("990 and stains of 9 against " + gap, x.join(0, false, 1, false), gap);
            DUE.is("missing at " + gap, x.at(1, 2), gap < 999 ? 1 : 0);
        }
        x.stain(0, 1, 1);
        DUE.is("1008 against 999", x.join(0, false, 1, false), 999);
        DUE.is("missing then", x.at(1, 2), 1);
        x.weights(1, 0, 0, 0, 0, 99);
        DUE.is("99 against 99", x.join(0, false, 1, false), 99);
        DUE.is("none is missing", x.at(1, 2), 0);
    }

    /** Leaf 1 right behind leaf 0, as they are, with the greatest RUN and CATCH, and one STAIN. */
    private static LeafOrder dearPair() {
        LeafOrder x = new LeafOrder();
        x.leaf(0, 0, 0, 0);
        x.leaf(99, 0, 0, 0);
        x.catchword(0, 1, 98);
        x.stain(0, 0, 1);
        x.must(0, 1, true, true);
        x.turnable(false);
        return x;
    }

    private static void noGap() {
        DUE.sentence("and GAP above 0");
        LeafOrder x = dearPair();
        x.weights(9, 9, 99, 0, 0, 0);
        DUE.is("GAP 0 is no gap", x.join(0, false, 1, false), 999);
        DUE.is("best", x.best(), 999);
        DUE.is("none is missing", x.at(1, 2), 0);
    }

    private static void turnBesides() {
        DUE.sentence("Each TURNED LEAF costs TURN besides, also the first one");
        LeafOrder x = new LeafOrder();
        x.leaf(50, 50, 0, 0);
        DUE.is("the first one, alone", x.next(), 30);
        x.leaf(50, 0, 99, 0);
        x.must(0, 1, true, true);
        DUE.is("the first one is turned", x.best(), 30);
        DUE.is("it is", x.at(0, 1), 1);
        x.weights(1, 0, 20, 10, 30, 1);
        DUE.is("one is missing instead", x.best(), 1);
        LeafOrder y = new LeafOrder();
        y.leaf(0, 50, 0, 0);
        y.leaf(99, 99, 50, 99);
        y.must(0, 1, true, true);
        y.weights(9, 0, 0, 0, 99, 0);
        DUE.is("both are turned", y.best(), 2 * 99);
        y.weights(1, 0, 0, 0, 99, 1);
        DUE.is("GAP does not bound TURN", y.next(), 1 + 99);
    }

    private static void bothInTheSet() {
        DUE.sentence("for all AHEAD and JOINED of which both LEAVES are in the set it is so");
        LeafOrder x = State.chain(3);
        x.turnable(false);
        x.must(0, 1, true, true);
        x.must(1, 0, true, true);
        DUE.is("no order of all", x.best(), -1);
        DUE.is("0, and 1 2", x.two(), 0);
        x.must(1, 2, true, true);
        x.must(2, 1, false, true);
        DUE.is("0 2, and 1", x.two(), 10);
        DUE.is("1 is apart", x.book(1), 1);
        DUE.is("2 is not", x.book(2), 0);
        LeafOrder y = State.chain(3);
        y.turnable(false);
        y.must(0, 2, true, true);
        y.must(0, 1, false, true);
        y.must(2, 1, false, true);
        DUE.is("0 2 1 alone is left", y.best(), 10 + 20);
        DUE.is("0 and 1 without 2 between them", y.two(), 0);
    }

    private static void emptyOrder() {
        DUE.sentence("(an empty one: 0)");
        LeafOrder x = new LeafOrder();
        DUE.is("best", x.best(), 0);
        x.turnable(false);
        DUE.is("best without turning", x.best(), 0);
        x.weights(9, 9, 99, 99, 99, 999);
        DUE.is("best with the greatest weights", x.best(), 0);
        x.leaf(1, 2, 3, 4);
        DUE.is("one leaf has no join", x.best(), 0);
    }

    private static void lastLeafIsLeast() {
        DUE.sentence("of like ones the one whose last LEAF is the least");
        LeafOrder x = State.alike(9);
        for (int i = 0; i < 9; i++) {
            DUE.is("at(" + i + ", 0)", x.at(i, 0), 8 - i);
        }
        x.must(0, 8, false, true);
        DUE.is("leaf 0 can't be last", x.at(8, 0), 1);
        DUE.is("then leaf 2", x.at(7, 0), 2);
    }

    private static void withItAsItIs() {
        DUE.sentence("of these the one with it as it is");
        // Alike cost 1 2 0 and 2 1 0 with leaf 0 turned: how the last one stands is looked at
        // before the leaf ahead of it.
        LeafOrder x = new LeafOrder();
        x.leaf(20, 99, 10, 99);
        x.leaf(20, 10, 20, 10);
        x.leaf(10, 20, 10, 20);
        x.weights(1, 0, 0, 0, 0, 0);
        DUE.is("best", x.best(), 0);
        DUE.is("another", x.next(), 0);
        DUE.is("the last leaf", x.at(2, 0), 0);
        DUE.is("as it is", x.at(2, 1), 0);
        DUE.is("the leaf ahead of it", x.at(1, 0), 2);
        DUE.is("as it is too", x.at(1, 1), 0);
        DUE.is("the first leaf", x.at(0, 0), 1);
        DUE.is("as it is as well", x.at(0, 1), 0);
    }

    private static void leafAheadLikewise() {
        DUE.sentence("then of the LEAF ahead of that likewise, and so on");
        LeafOrder x = new LeafOrder();
        x.leaf(0, 0, 0, 0);
        x.leaf(5, 9, 5, 0);
        x.leaf(5, 5, 5, 5);
        x.weights(1, 0, 0, 0, 0, 0);
        x.must(1, 0, true, true);
        x.must(2, 1, true, true);
        DUE.is("2 1 0", x.best(), 0);
        DUE.is("as it is", x.at(1, 1), 0);
        DUE.is("the first as it is", x.at(0, 1), 0);
        x.weights(0, 0, 0, 0, 0, 0);
        for (int i = 0; i < 3; i++) {
            DUE.is("where turning costs nothing", x.at(i, 1), 0);
        }
        LeafOrder y = State.alike(9);
        y.must(8, 0, true, true);
        int[] due = {7, 6, 5, 4, 3, 2, 1, 8, 0};
        for (int i = 0; i < 9; i++) {
            DUE.is("0 right behind 8, at " + i, y.at(i, 0), due[i]);
        }
    }

    private static void otherOrders() {
        DUE.sentence("of all other ORDERS of all LEAVES (others in LEAVES or in how they stand)");
        LeafOrder x = State.alike(1);
        DUE.is("in how it stands", x.next(), 30);
        x.weights(1, 0, 20, 10, 0, 0);
        DUE.is("at no cost", x.next(), 0);
        x.turnable(false);
        DUE.is("there is no other", x.next(), -1);
        x.leaf(0, 0, 0, 0);
        DUE.is("in leaves", x.next(), 0);
        x.must(1, 0, false, true);
        DUE.is("there is no other again", x.next(), -1);
        LeafOrder y = State.chain(3);
        y.weights(1, 0, 20, 10, 7, 0);
        DUE.is("the first turned, or the last", y.next(), 5 + 7);
        y.must(0, 1, true, true);
        y.must(1, 2, true, true);
        y.catchword(0, 0, 11);
        y.cut(2, 1, 1, 0);
        DUE.is("the first, the middle or the last turned", y.next(), 10 + 7);
    }

    private static void sureWithin() {
        DUE.sentence("in each ORDER that costs no more than d more than THE BEST");
        LeafOrder x = State.chain(2);
        x.turnable(false);
        DUE.is("0 1", x.best(), 0);
        DUE.is("1 0", x.next(), 20);
        DUE.is("less", x.sure(0, 1, 19), 1);
        DUE.is("just as much", x.sure(0, 1, 20), 0);
        DUE.is("1 0 within 0", x.sure(1, 0, 0), 0);
        x.weights(0, 0, 0, 0, 0, 0);
        DUE.is("alike, 1 0 is the best", x.sure(1, 0, 0), 0);
        DUE.is("alike, 0 1 is not", x.sure(0, 1, 0), 0);
        LeafOrder y = State.chain(3);
        DUE.is("another is right behind 0", y.sure(0, 2, 0), 0);
        DUE.is("2 is right behind another", y.sure(2, 1, 0), 0);
        // 0 1 2 with leaf 0 turned costs 25 then, and 1 0 2 costs 30.
        y.weights(1, 0, 20, 10, 20, 0);
        DUE.is("an order that differs in how they stand", y.next(), 25);
        DUE.is("does not make it unsure", y.sure(0, 1, 25), 1);
        DUE.is("one with other neighbours does", y.sure(0, 1, 30), 0);
    }

    private static void neitherEmpty() {
        DUE.sentence("parted into two sets, neither empty");
        LeafOrder x = State.chain(2);
        DUE.is("two leaves, one each", x.two(), 0);
        DUE.is("leaf 1 is in the other", x.book(1), 1);
        LeafOrder y = State.chain(3);
        y.turnable(false);
        DUE.is("three that fit", y.two(), 0);
        DUE.is("0, and 1 2: number 6; 0 1, and 2: number 4", y.book(2), 1);
        DUE.is("leaf 1 with leaf 0", y.book(1), 0);
        LeafOrder z = State.torn(3);
        DUE.is("all apart", z.two(), -1);
    }

    private static void leastNumber() {
        DUE.sentence("the set without LEAF 0 makes the least number");
        LeafOrder x = State.alike(9);
        DUE.is("cost", x.two(), 0);
        for (int leaf = 0; leaf < 9; leaf++) {
            DUE.is("alike: number 2, leaf " + leaf, x.book(leaf), leaf == 1 ? 1 : 0);
        }
        x.must(7, 8, false, true);
        x.must(8, 7, false, true);
        for (int leaf = 0; leaf < 9; leaf++) {
            DUE.is("7 and 8 apart: number 128, leaf " + leaf, x.book(leaf), leaf == 7 ? 1 : 0);
        }
        x.must(0, 7, false, true);
        x.must(7, 0, true, true);
        x.must(1, 0, false, true);
        x.must(0, 1, true, true);
        for (int leaf = 0; leaf < 9; leaf++) {
            int due = leaf == 1 || leaf == 7 ? 1 : 0;
            DUE.is("1 and 7 apart from 0: number 130, leaf " + leaf, x.book(leaf), due);
        }
    }

    private static void doubtWithin() {
        DUE.sentence("cost together no more than d more");
        LeafOrder x = new LeafOrder();
        x.leaf(0, 0, 0, 10);
        x.leaf(10, 10, 10, 60);
        x.leaf(70, 70, 70, 70);
        x.turnable(false);
        x.must(0, 2, false, true);
        x.must(2, 0, false, true);
        DUE.is("0 1, and 2", x.two(), 0);
        DUE.is("0, and 1 2, are 10 more", x.doubt(1, 9), 0);
        DUE.is("just as much", x.doubt(1, 10), 1);
        DUE.is("2 can't be with 0", x.doubt(2, 1000), 0);
        x.weights(0, 0, 0, 0, 0, 0);
        DUE.is("alike", x.doubt(1, 0), 1);
    }
}
