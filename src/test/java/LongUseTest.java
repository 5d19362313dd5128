/** An object answers as due up to its 512th call, the dearest ones among them. */
public final class LongUseTest {
    private static final Due DUE = new Due("LongUseTest");
    private static final int CALLS = 512;

    private final LeafOrder book = new LeafOrder();
    private int calls;

    public static void main(String[] args) {
        DUE.sentence("An object is used for at most 512 calls after it has been made");
        new LongUseTest().changesAndQuestions();
        new LongUseTest().questionsAlone();
        new LongUseTest().changesAlone();
        DUE.end();
    }

    private void is(String call, int got, int want) {
        calls++;
        DUE.is(call + ", call " + calls, got, want);
    }

    private void yes(String call, boolean got) {
        is(call, got ? 1 : 0, 1);
    }

    private void fillUp() {
        for (int k = 0; k < 9; k++) {
            is("leaf", book.leaf(10 * k, 10 * k + 5, 10 * k + 5, 10 * k + 10), k);
        }
    }

    /** Each question comes behind a change, so that nothing can be kept from the one before. */
    private void changesAndQuestions() {
        fillUp();
        for (int round = 0; calls + 8 <= CALLS; round++) {
            int k = round % 7;
            yes("must", book.must(k + 1, k, false, true));
            // The two change places: 20 back, and 10 over the gap on either side but the front.
            is("best", book.best(), k == 0 ? 30 : 40);
            yes("must", book.must(k + 1, k, false, false));
            is("sure", book.sure(k, k + 1, 9), 1);
            yes("weights", book.weights(2, 0, 20, 10, 30, 0));
            is("next", book.next(), 30 + 10);
            yes("weights", book.weights(1, 0, 20, 10, 30, 0));
            is("two", book.two(), 0);
        }
        while (calls < CALLS) {
            is("best at the end", book.best(), 0);
        }
    }

    private void questionsAlone() {
        fillUp();
        while (calls < CALLS) {
            int k = calls % 8;
            is("sure", book.sure(k, k + 1, 1000), 0);
        }
        DUE.is("calls", calls, CALLS);
    }

    private void changesAlone() {
        fillUp();
        yes("weights", book.weights(1, 1, 20, 10, 30, 0));
        while (calls < CALLS - 2) {
            yes("stain", book.stain(calls % 9, calls / 9 % 3, 99));
        }
        is("all stains are alike", book.best(), 0);
        is("the last call", book.join(0, false, 8, false), 70);
    }
}
