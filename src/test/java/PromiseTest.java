/** For each promise: ordinary inputs, the edges that the document names, and wrong inputs. */
public final class PromiseTest {
    private static final Due DUE = new Due("PromiseTest");
    private static final int LOW = Integer.MIN_VALUE;
    private static final int HIGH = Integer.MAX_VALUE;

    public static void main(String[] args) {
        newObject();
        leaf();
        catchword();
        cut();
        stain();
        weights();
        turnable();
        must();
        mustInPairs();
        join();
        joinAndGap();
        best();
        at();
        atAmongLikeOnes();
        next();
        sure();
        two();
        twoAmongLikeOnes();
        book();
        doubt();
        about();
        wildArguments();
        DUE.end();
    }

    private static LeafOrder withLeaves(int count) {
        LeafOrder x = new LeafOrder();
        for (int k = 0; k < count; k++) {
            x.leaf(10 * k, 10 * k + 5, 10 * k + 5, 10 * k + 10);
        }
        return x;
    }

    private static void newObject() {
        LeafOrder x = new LeafOrder();
        DUE.is("1 about(0)", x.about(0), 0);
        DUE.is("1 best()", x.best(), 0);
        DUE.is("1 next()", x.next(), -1);
        DUE.is("1 at(0, 0)", x.at(0, 0), -1);
        DUE.is("1 two()", x.two(), -1);
        DUE.is("1 book(0)", x.book(0), -1);
        DUE.is("1 sure(0, 1, 0)", x.sure(0, 1, 0), -1);
        DUE.is("1 doubt(1, 0)", x.doubt(1, 0), -1);
        DUE.is("1 join", x.join(0, false, 1, false), -1);
        DUE.no("1 must", x.must(0, 1, false, true));
        int[] first = {1, 0, 20, 10, 30, 0, 1};
        for (int k = 0; k < first.length; k++) {
            DUE.is("1 about(" + (k + 1) + ")", x.about(k + 1), first[k]);
        }
        LeafOrder other = new LeafOrder();
        x.leaf(0, 0, 0, 0);
        x.weights(2, 2, 2, 2, 2, 2);
        DUE.is("1 another object's leaves", other.about(0), 0);
        DUE.is("1 another object's weights", other.about(1), 1);
    }

    private static void leaf() {
        LeafOrder x = new LeafOrder();
        int[] wrong = {-1, 100, LOW, HIGH};
        for (int w : wrong) {
            DUE.is("2 begin", x.leaf(w, 0, 0, 0), -1);
            DUE.is("2 end", x.leaf(0, w, 0, 0), -1);
            DUE.is("2 otherBegin", x.leaf(0, 0, w, 0), -1);
            DUE.is("2 otherEnd", x.leaf(0, 0, 0, w), -1);
        }
        DUE.is("2 none of them counts", x.about(0), 0);
        for (int k = 0; k < 9; k++) {
            DUE.is("2 leaf " + k, x.leaf(0, 99, 99, 0), k);
        }
        DUE.is("2 a tenth", x.leaf(0, 0, 0, 0), -1);
        DUE.is("2 nine", x.about(0), 9);
        LeafOrder y = new LeafOrder();
        y.leaf(1, 2, 3, 4);
        y.best();
        y.leaf(50, 60, 70, 80);
        DUE.is("2 end of side 1 to begin of side 0", y.join(0, false, 1, false), 46);
        DUE.is("2 end of side 0 to begin of side 1", y.join(0, true, 1, true), 68);
        DUE.is("2 a leaf after a question", y.best(), 46);
    }

    private static void catchword() {
        LeafOrder x = withLeaves(2);
        DUE.is("3 no catchword at first", x.join(0, false, 1, false), 0);
        DUE.yes("3 least", x.catchword(0, 1, 0));
        DUE.is("3 another word than b's begin", x.join(0, false, 1, false), 20);
        DUE.is("3 a's other side has none", x.join(0, true, 1, false), 5);
        DUE.yes("3 b's begin", x.catchword(0, 1, 10));
        DUE.is("3 the word fits", x.join(0, false, 1, false), 0);
        DUE.is("3 the begin of b turned is another", x.join(0, false, 1, true), 25);
        DUE.yes("3 most", x.catchword(0, 1, 99));
        int[] wrong = {-2, 100, LOW, HIGH};
        for (int w : wrong) {
            DUE.no("3 word", x.catchword(0, 1, w));
            DUE.no("3 side", x.catchword(0, w, 1));
            DUE.no("3 leaf", x.catchword(w, 1, 1));
        }
        DUE.no("3 side", x.catchword(0, -1, 1));
        DUE.no("3 side", x.catchword(0, 2, 1));
        DUE.no("3 leaf", x.catchword(2, 0, 1));
        DUE.no("3 leaf", x.catchword(-1, 1, 1));
        DUE.is("3 wrong ones change nothing", x.join(0, false, 1, false), 20);
        DUE.yes("3 none again", x.catchword(0, 1, LeafOrder.NONE));
        DUE.is("3 no word costs nothing", x.join(0, false, 1, false), 0);
        DUE.yes("3 side 0", x.catchword(0, 0, 3));
        DUE.is("3 side 0 is last if turned", x.join(0, true, 1, false), 25);
        DUE.yes("3 b's own word does not matter", x.catchword(1, 0, 77));
        DUE.is("3 b's own word", x.join(0, false, 1, false), 0);
    }

    private static void cut() {
        LeafOrder x = withLeaves(2);
        DUE.yes("4 end", x.cut(0, 1, 0, 99));
        DUE.is("4 a cut and none", x.join(0, false, 1, false), 10);
        DUE.yes("4 begin", x.cut(1, 0, 99, 0));
        DUE.is("4 the same cut", x.join(0, false, 1, false), 0);
        DUE.yes("4 another", x.cut(1, 0, 98, 99));
        DUE.is("4 another cut", x.join(0, false, 1, false), 10);
        DUE.is("4 neither side is cut", x.join(0, true, 1, true), 10);
        DUE.yes("4 back", x.cut(1, 0, 99, 0));
        int[] wrong = {-1, 100, LOW, HIGH};
        for (int w : wrong) {
            DUE.no("4 begin", x.cut(1, 0, w, 5));
            DUE.no("4 end", x.cut(0, 1, 5, w));
            DUE.no("4 leaf", x.cut(w, 0, 5, 5));
            DUE.no("4 side", x.cut(1, w, 5, 5));
        }
        DUE.no("4 side 2", x.cut(0, 2, 5, 5));
        DUE.no("4 leaf 2", x.cut(2, 0, 5, 5));
        DUE.is("4 wrong ones change nothing", x.join(0, false, 1, false), 0);
        DUE.yes("4 none", x.cut(0, 1, 0, 0));
        DUE.is("4 none and a cut", x.join(0, false, 1, false), 10);
        LeafOrder y = withLeaves(2);
        y.cut(0, 1, 7, 0);
        y.cut(1, 0, 0, 7);
        DUE.is("4 a's begin and b's end do not matter", y.join(0, false, 1, false), 0);
    }

    private static void stain() {
        LeafOrder x = withLeaves(2);
        x.weights(1, 1, 20, 10, 30, 0);
        DUE.yes("5 k 0", x.stain(0, 0, 99));
        DUE.yes("5 k 1", x.stain(1, 1, 40));
        DUE.yes("5 k 2", x.stain(0, 2, 7));
        DUE.yes("5 k 2", x.stain(1, 2, 9));
        DUE.is("5 sum", x.join(0, false, 1, false), 141);
        DUE.is("5 the sum is the same for turned ones", x.join(0, true, 1, true), 151);
        x.weights(1, 9, 20, 10, 30, 0);
        DUE.is("5 times STAIN", x.join(0, false, 1, false), 9 * 141);
        int[] wrong = {-1, 100, LOW, HIGH};
        for (int w : wrong) {
            DUE.no("5 leaf", x.stain(w, 0, 1));
            DUE.no("5 k", x.stain(0, w, 1));
            DUE.no("5 size", x.stain(0, 0, w));
        }
        DUE.no("5 k 3", x.stain(0, 3, 1));
        DUE.no("5 leaf 2", x.stain(2, 0, 1));
        DUE.is("5 wrong ones change nothing", x.join(0, false, 1, false), 9 * 141);
        DUE.yes("5 back to 0", x.stain(0, 0, 0));
        DUE.is("5 without it", x.join(0, false, 1, false), 9 * 42);
    }

    private static void weights() {
        LeafOrder x = withLeaves(2);
        int[] most = {9, 9, 99, 99, 99, 999};
        int[] args = {1, 2, 3, 4, 5, 6};
        for (int k = 0; k < 6; k++) {
            int kept = args[k];
            args[k] = most[k];
            DUE.yes("6 most", put(x, args));
            args[k] = 0;
            DUE.yes("6 least", put(x, args));
            args[k] = kept;
            DUE.yes("6 back", put(x, args));
            int[] wrong = {most[k] + 1, -1, LOW, HIGH};
            for (int w : wrong) {
                int[] bad = {6, 5, 4, 3, 2, 1};
                bad[k] = w;
                DUE.no("6 wrong at " + k, put(x, bad));
            }
        }
        for (int k = 0; k < 6; k++) {
            DUE.is("6 wrong ones change nothing", x.about(k + 1), args[k]);
        }
        LeafOrder y = withLeaves(2);
        y.catchword(0, 0, 1);
        y.cut(0, 0, 0, 1);
        y.stain(0, 0, 3);
        y.weights(7, 5, 40, 60, 0, 0);
        DUE.is("6 what each weighs", y.join(0, true, 1, false), 7 * 5 + 5 * 3 + 40 + 60);
        y.weights(0, 0, 0, 0, 0, 0);
        DUE.is("6 nothing", y.join(0, true, 1, false), 0);
        DUE.is("6 best with nothing", y.best(), 0);
        LeafOrder z = new LeafOrder();
        z.leaf(0, 0, 0, 0);
        DUE.is("6 before", z.next(), 30);
        z.weights(1, 0, 20, 10, 99, 0);
        DUE.is("6 turn, after a question", z.next(), 99);
    }

    private static boolean put(LeafOrder x, int[] w) {
        return x.weights(w[0], w[1], w[2], w[3], w[4], w[5]);
    }

    private static void turnable() {
        LeafOrder x = new LeafOrder();
        x.leaf(50, 0, 0, 10);
        x.leaf(60, 10, 12, 60);
        x.weights(1, 0, 20, 10, 3, 0);
        DUE.is("7 one is turned", x.best(), 2 + 3);
        DUE.is("7 the last one", x.at(1, 1), 1);
        x.turnable(false);
        DUE.is("7 none may be", x.best(), 10);
        DUE.is("7 the other way", x.next(), 50);
        DUE.is("7 as it is", x.at(0, 1), 0);
        DUE.is("7 as it is", x.at(1, 1), 0);
        DUE.is("7 sure though the other is dearer", x.sure(1, 0, 39), 1);
        DUE.is("7 not within more", x.sure(1, 0, 40), 0);
        x.turnable(true);
        DUE.is("7 again", x.best(), 5);
        DUE.is("7 about(7)", x.about(7), 1);
    }

    private static void must() {
        LeafOrder x = withLeaves(3);
        x.turnable(false);
        DUE.is("8 free", x.best(), 0);
        DUE.yes("8 ahead", x.must(2, 1, false, true));
        DUE.is("8 behind it", x.best(), 30);
        DUE.yes("8 ahead again is no fault", x.must(2, 1, false, true));
        DUE.yes("8 joined", x.must(2, 0, true, true));
        DUE.is("8 2 0 1", x.best(), 30);
        DUE.is("8 2 0 1 alone", x.next(), -1);
        DUE.yes("8 joined no more", x.must(2, 0, true, false));
        DUE.is("8 next again", x.next(), 30);
        DUE.yes("8 ahead no more", x.must(2, 1, false, false));
        DUE.is("8 free again", x.best(), 0);
        DUE.yes("8 what did not hold", x.must(2, 1, false, false));
        int[] wrong = {-1, 3, 9, 32, LOW, HIGH};
        for (int w : wrong) {
            DUE.no("8 a", x.must(w, 1, false, true));
            DUE.no("8 b", x.must(1, w, false, true));
            DUE.no("8 joined a", x.must(w, 1, true, true));
            DUE.no("8 joined b", x.must(1, w, true, false));
        }
        DUE.no("8 the same", x.must(1, 1, false, true));
        DUE.no("8 the same joined", x.must(1, 1, true, true));
        DUE.is("8 wrong ones change nothing", x.best(), 0);
    }

    private static void mustInPairs() {
        LeafOrder x = withLeaves(3);
        x.must(0, 1, true, true);
        x.must(0, 2, true, true);
        DUE.is("8 two right behind one", x.best(), -1);
        x.must(0, 2, true, false);
        x.must(2, 1, true, true);
        DUE.is("8 one right behind two", x.best(), -1);
        x.must(2, 1, true, false);
        x.must(1, 0, true, true);
        DUE.is("8 each right behind the other", x.best(), -1);
        x.must(1, 0, true, false);
        x.must(1, 0, false, true);
        DUE.is("8 joined against ahead", x.best(), -1);
        x.must(0, 1, true, false);
        x.must(0, 2, false, true);
        x.must(2, 1, false, true);
        DUE.is("8 ahead in a ring", x.best(), -1);
        x.must(1, 0, false, false);
        DUE.is("8 0 2 1", x.best(), 10 + 20);
        LeafOrder y = withLeaves(2);
        y.must(0, 1, true, true);
        y.must(0, 1, false, true);
        y.must(0, 1, false, false);
        y.turnable(false);
        DUE.is("8 joined stays when ahead goes", y.next(), -1);
    }

    private static void join() {
        LeafOrder x = new LeafOrder();
        x.leaf(10, 21, 33, 46);
        x.leaf(60, 75, 91, 8);
        DUE.is("9 as they are", x.join(0, false, 1, false), 14);
        DUE.is("9 a turned", x.join(0, true, 1, false), 39);
        DUE.is("9 b turned", x.join(0, false, 1, true), 45);
        DUE.is("9 both turned", x.join(0, true, 1, true), 70);
        DUE.is("9 the other ahead", x.join(1, false, 0, false), 2);
        DUE.is("9 the other ahead, turned", x.join(1, true, 0, true), 42);
        int[] wrong = {-1, 2, 9, LOW, HIGH};
        for (int w : wrong) {
            DUE.is("9 a", x.join(w, false, 1, false), -1);
            DUE.is("9 b", x.join(0, false, w, false), -1);
        }
        DUE.is("9 the same", x.join(1, false, 1, false), -1);
        DUE.is("9 the same turned", x.join(1, false, 1, true), -1);
        x.must(1, 0, true, true);
        DUE.is("9 must does not matter", x.join(0, false, 1, false), 14);
        x.turnable(false);
        DUE.is("9 a may not be turned", x.join(0, true, 1, false), -1);
        DUE.is("9 b may not be turned", x.join(0, false, 1, true), -1);
        DUE.is("9 both may not", x.join(0, true, 1, true), -1);
        DUE.is("9 as they are may be", x.join(0, false, 1, false), 14);
    }

    private static void joinAndGap() {
        LeafOrder x = new LeafOrder();
        x.leaf(0, 0, 0, 0);
        x.leaf(50, 0, 0, 0);
        x.catchword(0, 1, 1);
        x.weights(1, 0, 20, 10, 30, 70);
        DUE.is("9 as dear as the gap", x.join(0, false, 1, false), 70);
        x.must(0, 1, true, true);
        x.turnable(false);
        DUE.is("9 none is missing yet", x.at(1, 2), 0);
        x.weights(1, 0, 20, 10, 30, 69);
        DUE.is("9 above the gap", x.join(0, false, 1, false), 69);
        DUE.is("9 one is missing", x.at(1, 2), 1);
        DUE.is("9 none is missing ahead of the first", x.at(0, 2), 0);
        x.weights(1, 0, 20, 10, 30, 0);
        DUE.is("9 no gap", x.join(0, false, 1, false), 70);
        DUE.is("9 none is missing without a gap", x.at(1, 2), 0);
        x.weights(1, 0, 20, 10, 99, 5);
        x.turnable(true);
        DUE.is("9 turn is not in the join", x.join(0, true, 1, false), 5);
    }

    private static void best() {
        LeafOrder x = new LeafOrder();
        x.leaf(90, 0, 0, 95);
        DUE.is("10 one leaf", x.best(), 0);
        x.leaf(80, 85, 85, 90);
        DUE.is("10 two leaves", x.best(), 0);
        x.leaf(99, 80, 95, 99);
        DUE.is("10 the last as it is", x.best(), 4);
        x.weights(1, 0, 20, 10, 3, 0);
        DUE.is("10 the last turned", x.best(), 3);
        LeafOrder nine = new LeafOrder();
        for (int k = 0; k < 9; k++) {
            int place = k * 4 % 9;
            nine.leaf(10 * place, 10 * place + 5, 10 * place + 5, 10 * place + 10);
        }
        DUE.is("10 nine leaves", nine.best(), 0);
        for (int k = 0; k < 9; k++) {
            DUE.is("10 nine leaves at " + k, nine.at(k, 0), k * 7 % 9);
        }
        DUE.is("10 nine leaves, two neighbours changed", nine.next(), 20 + 10);
        bestAfterChanges();
        dearestOrder();
    }

    /** Each kind of change must reach the best order that was asked for before it. */
    private static void bestAfterChanges() {
        LeafOrder x = withLeaves(2);
        x.weights(1, 1, 20, 10, 99, 0);
        x.must(0, 1, true, true);
        DUE.is("10 at first", x.best(), 0);
        x.catchword(0, 1, 1);
        DUE.is("10 after a catchword", x.best(), 20);
        x.cut(0, 1, 0, 1);
        DUE.is("10 after a cut", x.best(), 30);
        x.stain(1, 0, 2);
        DUE.is("10 after a stain", x.best(), 32);
        x.weights(1, 1, 20, 10, 99, 31);
        DUE.is("10 after weights", x.best(), 31);
        DUE.is("10 one is missing", x.at(1, 2), 1);
        x.must(1, 0, false, true);
        DUE.is("10 after a must", x.best(), -1);
    }

    private static void dearestOrder() {
        LeafOrder x = new LeafOrder();
        for (int k = 0; k < 9; k++) {
            x.leaf(99, 0, 99, 0);
            for (int side = 0; side < 2; side++) {
                x.catchword(k, side, 0);
                x.cut(k, side, 1, 2);
            }
            for (int s = 0; s < 3; s++) {
                x.stain(k, s, k % 2 == 0 ? 99 : 0);
            }
        }
        for (int k = 0; k < 8; k++) {
            x.must(k, k + 1, true, true);
        }
        x.weights(9, 9, 99, 99, 99, 0);
        DUE.is("10 the dearest join", x.join(0, false, 1, false), 3762);
        DUE.is("10 the dearest order", x.best(), 8 * 3762);
        DUE.is("10 and one turned", x.next(), 8 * 3762 + 99);
        DUE.is("10 sure, there is no other", x.sure(0, 1, 1000), 1);
    }

    private static void at() {
        LeafOrder x = new LeafOrder();
        x.leaf(40, 50, 50, 60);
        x.leaf(30, 40, 20, 30);
        x.weights(1, 0, 20, 10, 5, 0);
        DUE.is("11 cost", x.best(), 5);
        DUE.is("11 leaf at 0", x.at(0, 0), 1);
        DUE.is("11 leaf at 1", x.at(1, 0), 0);
        DUE.is("11 turned at 0", x.at(0, 1), 1);
        DUE.is("11 not turned at 1", x.at(1, 1), 0);
        int[] wrong = {-1, 3, LOW, HIGH};
        for (int w : wrong) {
            DUE.is("11 place", x.at(w, 0), -1);
            DUE.is("11 what", x.at(0, w), -1);
        }
        DUE.is("11 place 2", x.at(2, 0), -1);
        DUE.is("11 place 9", x.at(9, 2), -1);
        x.must(0, 1, false, true);
        x.must(1, 0, false, true);
        for (int what = 0; what < 3; what++) {
            DUE.is("11 without an order", x.at(0, what), -1);
        }
    }

    private static void atAmongLikeOnes() {
        LeafOrder x = new LeafOrder();
        for (int k = 0; k < 4; k++) {
            x.leaf(0, 0, 0, 0);
        }
        x.weights(0, 0, 0, 0, 0, 0);
        for (int k = 0; k < 4; k++) {
            DUE.is("11 like ones: the last is the least", x.at(k, 0), 3 - k);
            DUE.is("11 like ones: as they are", x.at(k, 1), 0);
        }
        x.must(0, 2, false, true);
        int[] order = {3, 0, 2, 1};
        int[] after = {3, 2, 0, 1};
        x.must(0, 1, false, true);
        for (int k = 0; k < 4; k++) {
            DUE.is("11 like ones, 0 ahead of 1 and 2", x.at(k, 0), order[k]);
        }
        x.must(0, 2, false, false);
        for (int k = 0; k < 4; k++) {
            DUE.is("11 like ones, 0 ahead of 1", x.at(k, 0), after[k]);
        }
        LeafOrder y = new LeafOrder();
        y.leaf(7, 0, 5, 5);
        y.leaf(5, 9, 9, 7);
        y.weights(1, 0, 0, 0, 0, 0);
        DUE.is("11 the least last leaf goes ahead of how it stands", y.at(1, 0), 0);
        DUE.is("11 leaf 0 as it is", y.at(1, 1), 0);
    }

    private static void next() {
        LeafOrder x = new LeafOrder();
        x.leaf(3, 4, 5, 6);
        DUE.is("12 one leaf, turned", x.next(), 30);
        x.turnable(false);
        DUE.is("12 one leaf that may not be", x.next(), -1);
        x.leaf(6, 7, 8, 9);
        DUE.is("12 the other way round", x.next(), 6);
        x.must(0, 1, false, true);
        DUE.is("12 there is but one", x.next(), -1);
        x.turnable(true);
        DUE.is("12 others in how they stand", x.next(), 32);
        x.must(1, 0, false, true);
        DUE.is("12 there is none", x.next(), -1);
        LeafOrder y = new LeafOrder();
        y.leaf(1, 1, 1, 1);
        y.leaf(1, 1, 1, 1);
        DUE.is("12 a like one", y.next(), 0);
        LeafOrder z = withLeaves(4);
        z.turnable(false);
        DUE.is("12 two neighbours changed", z.next(), 20 + 10);
    }

    private static void sure() {
        LeafOrder x = withLeaves(3);
        x.turnable(false);
        DUE.is("13 0 1 2 costs 0, all others 30 or more", x.next(), 30);
        DUE.is("13 within less", x.sure(0, 1, 29), 1);
        DUE.is("13 within as much, 1 0 2", x.sure(0, 1, 30), 0);
        DUE.is("13 within less", x.sure(1, 2, 29), 1);
        DUE.is("13 within as much, 0 2 1", x.sure(1, 2, 30), 0);
        DUE.is("13 not in the best", x.sure(0, 2, 0), 0);
        DUE.is("13 the other way", x.sure(1, 0, 1000), 0);
        DUE.is("13 within 0", x.sure(0, 1, 0), 1);
        DUE.is("13 d 1001", x.sure(0, 1, 1001), -1);
        DUE.is("13 d -1", x.sure(0, 1, -1), -1);
        DUE.is("13 d low", x.sure(0, 1, LOW), -1);
        DUE.is("13 d high", x.sure(0, 1, HIGH), -1);
        int[] wrong = {-1, 3, 9, LOW, HIGH};
        for (int w : wrong) {
            DUE.is("13 a", x.sure(w, 1, 0), -1);
            DUE.is("13 b", x.sure(1, w, 0), -1);
        }
        DUE.is("13 the same", x.sure(2, 2, 0), -1);
        x.must(0, 1, true, true);
        DUE.is("13 joined is always sure", x.sure(0, 1, 1000), 1);
        DUE.is("13 the other is, within less", x.sure(1, 2, 29), 1);
        DUE.is("13 the other is not, 2 0 1", x.sure(1, 2, 30), 0);
        DUE.is("13 the best as before", x.best(), 0);
        DUE.is("13 the next as before", x.next(), 30);
        DUE.is("13 the books as before", x.two(), 0);
        x.must(1, 0, false, true);
        DUE.is("13 no order", x.sure(0, 1, 0), -1);
        LeafOrder y = new LeafOrder();
        y.leaf(0, 0, 0, 0);
        y.leaf(0, 0, 0, 0);
        DUE.is("13 1 0 is the best of like ones", y.at(0, 0), 1);
        DUE.is("13 like ones make it unsure", y.sure(1, 0, 0), 0);
        LeafOrder z = withLeaves(4);
        z.weights(1, 0, 20, 10, 4, 0);
        DUE.is("13 how they stand makes the next", z.next(), 4 + 5);
        DUE.is("13 but is no other neighbour", z.sure(0, 1, 9), 1);
    }

    private static void two() {
        LeafOrder x = new LeafOrder();
        x.leaf(0, 5, 5, 10);
        DUE.is("14 one leaf", x.two(), -1);
        x.leaf(80, 85, 85, 90);
        DUE.is("14 two leaves", x.two(), 0);
        x.leaf(11, 15, 15, 20);
        DUE.is("14 three leaves", x.two(), 1);
        x.leaf(92, 95, 95, 99);
        DUE.is("14 four leaves", x.two(), 3);
        DUE.is("14 book 0", x.book(0), 0);
        DUE.is("14 book 1", x.book(1), 1);
        DUE.is("14 book 2", x.book(2), 0);
        DUE.is("14 book 3", x.book(3), 1);
        for (int a = 0; a < 3; a++) {
            for (int b = 0; b < 3; b++) {
                x.must(a, b, false, true);
            }
        }
        DUE.is("14 three that can't be together", x.two(), -1);
        DUE.is("14 no book", x.book(0), -1);
        DUE.is("14 no doubt", x.doubt(1, 0), -1);
        x.must(0, 1, false, false);
        DUE.is("14 two of them can: 1 3 0, and 2", x.two(), 2 + 99);
    }

    private static void twoAmongLikeOnes() {
        LeafOrder x = new LeafOrder();
        for (int k = 0; k < 4; k++) {
            x.leaf(0, 0, 0, 0);
        }
        DUE.is("14 like ones", x.two(), 0);
        DUE.is("14 the least number is 2", x.book(1), 1);
        DUE.is("14 not 6", x.book(2), 0);
        DUE.is("14 not 10", x.book(3), 0);
        x.must(2, 3, false, true);
        x.must(3, 2, false, true);
        DUE.is("14 the least number is 4", x.book(2), 1);
        DUE.is("14 not 6", x.book(1), 0);
        DUE.is("14 not 8", x.book(3), 0);
        LeafOrder y = withLeaves(2);
        y.must(0, 1, true, true);
        y.must(1, 0, true, true);
        DUE.is("14 musts bind within a book alone", y.two(), 0);
    }

    private static void book() {
        LeafOrder x = withLeaves(1);
        DUE.is("15 one leaf", x.book(0), -1);
        x.leaf(70, 70, 70, 70);
        DUE.is("15 that of leaf 0", x.book(0), 0);
        DUE.is("15 the other", x.book(1), 1);
        int[] wrong = {-1, 2, 9, 32, LOW, HIGH};
        for (int w : wrong) {
            DUE.is("15 leaf", x.book(w), -1);
        }
    }

    private static void doubt() {
        LeafOrder x = new LeafOrder();
        x.leaf(0, 5, 5, 10);
        x.leaf(12, 15, 15, 20);
        x.leaf(50, 55, 55, 60);
        DUE.is("16 leaves 0 and 1 together", x.two(), 2);
        DUE.is("16 leaf 2 with leaf 1", x.doubt(1, 27), 0);
        DUE.is("16 the edge: 20 to 50 costs 28 more", x.doubt(1, 28), 1);
        DUE.is("16 leaf 2 with leaf 0", x.doubt(2, 37), 0);
        DUE.is("16 the edge: 10 to 50 costs 38 more", x.doubt(2, 38), 1);
        DUE.is("16 most d", x.doubt(1, 1000), 1);
        DUE.is("16 d 1001", x.doubt(1, 1001), -1);
        DUE.is("16 d -1", x.doubt(1, -1), -1);
        DUE.is("16 d low", x.doubt(1, LOW), -1);
        DUE.is("16 d high", x.doubt(1, HIGH), -1);
        int[] wrong = {0, -1, 3, 9, LOW, HIGH};
        for (int w : wrong) {
            DUE.is("16 leaf", x.doubt(w, 5), -1);
        }
        LeafOrder y = withLeaves(2);
        DUE.is("16 two leaves are never in doubt", y.doubt(1, 1000), 0);
        LeafOrder z = withLeaves(1);
        DUE.is("16 one leaf", z.doubt(0, 0), -1);
    }

    private static void about() {
        LeafOrder x = withLeaves(4);
        x.weights(9, 8, 70, 60, 50, 400);
        int[] due = {4, 9, 8, 70, 60, 50, 400, 1};
        for (int k = 0; k < due.length; k++) {
            DUE.is("17 about(" + k + ")", x.about(k), due[k]);
        }
        x.turnable(false);
        DUE.is("17 may not be turned", x.about(7), 0);
        int[] wrong = {-1, 8, 9, LOW, HIGH};
        for (int w : wrong) {
            DUE.is("17 about(" + w + ")", x.about(w), -1);
        }
    }

    /** No argument in any state may make a call throw. */
    private static void wildArguments() {
        int[] wild = {LOW, -33, -2, -1, 0, 1, 2, 8, 9, 18, 31, 32, 64, 99, 100, 1000, 1001, HIGH};
        for (int leaves = 0; leaves <= 9; leaves += 3) {
            for (int a : wild) {
                LeafOrder x = withLeaves(leaves);
                for (int b : wild) {
                    x.must(a, b, true, true);
                    x.must(b, a, false, true);
                    x.join(a, true, b, false);
                    x.at(a, b);
                    x.sure(a, b, 1000);
                    x.sure(1, 2, a);
                    x.doubt(a, b);
                    x.book(b);
                    x.catchword(a, b, a);
                    x.cut(a, b, b, a);
                    x.stain(a, b, b);
                    x.weights(a, b, a, b, a, b);
                    x.about(b);
                }
                x.best();
                x.next();
                x.two();
                x.leaf(a, a, a, a);
            }
        }
        DUE.yes("no call threw", true);
    }
}
