import java.util.ArrayList;
import java.util.List;

/** Objects in the states that the edges need, and what can be seen of such a state. */
final class State {
    private State() {
    }

    /** Leaf k runs from 10 k to 10 k + 10, so that they fit as they are in the order of numbers. */
    static LeafOrder chain(int leaves) {
        LeafOrder x = new LeafOrder();
        for (int k = 0; k < leaves; k++) {
            x.leaf(10 * k, 10 * k + 5, 10 * k + 5, 10 * k + 10);
        }
        return x;
    }

    static LeafOrder alike(int leaves) {
        LeafOrder x = new LeafOrder();
        for (int k = 0; k < leaves; k++) {
            x.leaf(0, 0, 0, 0);
        }
        return x;
    }

    /** Every side and leaf is marked, all weights count, and some leaves are bound. */
    static LeafOrder marked(int leaves) {
        LeafOrder x = new LeafOrder();
        x.weights(2, 3, 17, 11, 5, 400);
        for (int k = 0; k < leaves; k++) {
            x.leaf(7 * k + 1, 5 * k + 2, 3 * k + 3, 2 * k + 4);
            for (int side = 0; side < 2; side++) {
                x.catchword(k, side, 20 + 2 * k + side);
                x.cut(k, side, 40 + 2 * k + side, 60 + 2 * k + side);
            }
            for (int s = 0; s < 3; s++) {
                x.stain(k, s, 80 + k + s);
            }
        }
        x.must(0, 2, false, true);
        x.must(2, 1, true, true);
        return x;
    }

    /** There is no order of all leaves, for leaves 0 and 1 must each be ahead of the other. */
    static LeafOrder stuck(int leaves) {
        LeafOrder x = chain(leaves);
        x.must(0, 1, false, true);
        x.must(1, 0, false, true);
        return x;
    }

    /** No two of the first three leaves can be in one book. */
    static LeafOrder torn(int leaves) {
        LeafOrder x = chain(leaves);
        for (int a = 0; a < 3; a++) {
            for (int b = 0; b < 3; b++) {
                x.must(a, b, false, true);
            }
        }
        return x;
    }

    /**
     * All that the questions tell. For nine leaves these are 277 calls, so that an object can be
     * asked once beside what made it (512 calls in all).
     */
    static List<Integer> seen(LeafOrder x) {
        List<Integer> seen = new ArrayList<>(List.of(x.best(), x.next(), x.two()));
        for (int what = -1; what <= 8; what++) {
            seen.add(x.about(what));
        }
        int leaves = x.about(0);
        for (int i = 0; i <= leaves; i++) {
            for (int what = 0; what < 3; what++) {
                seen.add(x.at(i, what));
            }
        }
        for (int a = 0; a < leaves; a++) {
            seen.add(x.book(a));
            seen.add(x.doubt(a, 7));
            for (int b = 0; b < leaves; b++) {
                if (a != b) {
                    seen.add(x.join(a, false, b, false));
                    seen.add(x.join(a, true, b, true));
                    seen.add(x.sure(a, b, 7));
                }
            }
        }
        return seen;
    }
}
