/** "An object is used for at most 512 calls": the last of them is answered as the first. */
public final class CallsTest {
    private static final int MOST_CALLS = 512;
    private static final Edges EDGES = new Edges();

    public static void main(String[] args) {
        EDGES.sentence("512 calls, changes alone", CallsTest::changes);
        EDGES.sentence("512 calls, one long transaction", CallsTest::longTransaction);
        EDGES.sentence("512 calls, many transactions", CallsTest::manyTransactions);
        EDGES.sentence("512 calls, codes", CallsTest::codes);
        EDGES.sentence("512 calls, blocked", CallsTest::blocked);
        EDGES.sentence("512 calls, power cuts", CallsTest::powerCuts);
        EDGES.sentence("512 calls, creates undone", CallsTest::createsUndone);
        EDGES.sentence("512 calls, refused ones", CallsTest::refused);
        EDGES.end();
    }

    private static void due(String call, int got, int want) {
        EDGES.due(call, got, want);
    }

    private static void changes() {
        CardFiles x = EDGES.cardWith(0, 16, false);
        for (int call = 2; call <= MOST_CALLS - 2; call++) {
            due("update, call " + call, x.update(0, 15, call), 0);
        }
        x.torn(false, 0);
        due("the last call", x.read(0, 15), (MOST_CALLS - 3) & 255);
    }

    private static void longTransaction() {
        CardFiles x = EDGES.cardWith(0, 16, false);
        due("begin", x.begin(), 0);
        for (int call = 3; call <= MOST_CALLS - 2; call++) {
            due("update, call " + call, x.update(0, call % 16, call), 0);
        }
        due("commit", x.commit(), 0);
        due("the last call", x.read(0, (MOST_CALLS - 2) % 16), (MOST_CALLS - 2) & 255);
    }

    private static void manyTransactions() {
        CardFiles x = EDGES.cardWith(0, 1, false);
        for (int call = 2; call <= MOST_CALLS - 3; call += 3) {
            due("begin, call " + call, x.begin(), 0);
            due("update, call " + (call + 1), x.update(0, 0, call), 0);
            due("end, call " + (call + 2), call % 2 == 0 ? x.commit() : x.abort(), 0);
        }
        // The last transaction begins at call 509 and is aborted, the one before at 506.
        due("the last call", x.read(0, 0), 506 & 255);
    }

    private static void codes() {
        CardFiles x = EDGES.verifiedCard();
        for (int call = 2; call <= MOST_CALLS - 2; call += 2) {
            due("change, call " + call, x.change(call), 0);
            due("verify, call " + (call + 1), x.verify(call), 3);
        }
        // Calls 2 to 511 are 255 changes, each with its verify.
        due("the last call", x.state(), 7);
    }

    private static void blocked() {
        CardFiles x = EDGES.blockedCard();
        for (int call = 4; call <= MOST_CALLS; call++) {
            due("verify, call " + call, x.verify(1234), Edges.BLOCKED);
        }
    }

    private static void powerCuts() {
        CardFiles x = EDGES.cardWith(5, 16, true);
        for (int call = 2; call <= MOST_CALLS - 1; call++) {
            if (call % 2 == 0) {
                x.power();
            } else {
                x.torn(false, call);
            }
        }
        due("the last call", x.size(5), 16);
    }

    private static void createsUndone() {
        CardFiles x = new CardFiles();
        for (int call = 1; call <= MOST_CALLS - 2; call += 2) {
            due("create, call " + call, x.create(5, 16, false), 0);
            x.torn(false, call);
        }
        due("create, call 511", x.create(5, 1, false), 0);
        due("the last call", x.size(5), 1);
    }

    private static void refused() {
        CardFiles x = new CardFiles();
        for (int call = 1; call <= MOST_CALLS - 1; call++) {
            due("create, call " + call, x.create(6, 1, false), Edges.BAD);
        }
        due("the last call", x.create(5, 16, false), 0);
    }
}
