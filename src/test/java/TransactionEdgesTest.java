/** The boundary cases of the promises on transactions: 5 begin, 6 commit, 7 abort. */
public final class TransactionEdgesTest {
    private static final int OPEN = Edges.OPEN;
    private static final Edges EDGES = new Edges();

    public static void main(String[] args) {
        EDGES.sentence("Terms: no transaction is open at the start", TransactionEdgesTest::noneAtTheStart);
        EDGES.sentence("Terms: updates are only seen by reading", TransactionEdgesTest::onlySeenByReading);
        EDGES.sentence("Terms: they become lasting all together", TransactionEdgesTest::lastingAllTogether);
        EDGES.sentence("Terms: or are forgotten when it is aborted", TransactionEdgesTest::forgottenAllTogether);

        EDGES.sentence("5: OPEN if one is open", TransactionEdgesTest::beginWhileOpen);
        EDGES.sentence("5: otherwise answers 0", TransactionEdgesTest::beginOtherwise);

        EDGES.sentence("6: commits an empty transaction", TransactionEdgesTest::commitEmpty);
        EDGES.sentence("6: OPEN if none is open", TransactionEdgesTest::commitNoneOpen);
        EDGES.sentence("6: otherwise answers 0", TransactionEdgesTest::commitOtherwise);

        EDGES.sentence("7: aborts an empty transaction", TransactionEdgesTest::abortEmpty);
        EDGES.sentence("7: aborts the open transaction and no more", TransactionEdgesTest::abortNoMore);
        EDGES.sentence("7: OPEN if none is open", TransactionEdgesTest::abortNoneOpen);
        EDGES.sentence("7: otherwise answers 0", TransactionEdgesTest::abortOtherwise);
        EDGES.end();
    }

    private static void due(String call, int got, int want) {
        EDGES.due(call, got, want);
    }

    private static void noneAtTheStart() {
        due("commit", new CardFiles().commit(), OPEN);
        due("abort", new CardFiles().abort(), OPEN);
        due("begin", new CardFiles().begin(), 0);
        due("create", new CardFiles().create(0, 1, false), 0);
    }

    private static void onlySeenByReading() {
        for (int cut = 0; cut < 3; cut++) {
            CardFiles x = EDGES.fullCard();
            x.power();
            due("begin", x.begin(), 0);
            EDGES.fill(x, 150);
            EDGES.filled("seen", x, 150);
            if (cut == 0) {
                x.power();
            } else {
                x.torn(cut == 1, 0);
            }
            EDGES.allZero("not lasting, cut " + cut, x);
        }
    }

    private static void lastingAllTogether() {
        CardFiles x = EDGES.fullCard();
        due("begin", x.begin(), 0);
        EDGES.fill(x, 1);
        due("commit", x.commit(), 0);
        EDGES.filled("seen", x, 1);
        x.power();
        EDGES.filled("lasting", x, 1);
        // The same byte in one transaction: what lasts is the last of its updates.
        due("begin", x.begin(), 0);
        due("update", x.update(5, 15, 201), 0);
        due("update", x.update(5, 15, 202), 0);
        due("commit", x.commit(), 0);
        x.power();
        due("the last of them", x.read(5, 15), 202);
    }

    private static void forgottenAllTogether() {
        CardFiles x = EDGES.fullCard();
        due("begin", x.begin(), 0);
        EDGES.fill(x, 1);
        due("abort", x.abort(), 0);
        EDGES.allZero("forgotten", x);
        due("begin", x.begin(), 0);
        due("update", x.update(0, 0, 255), 0);
        due("commit", x.commit(), 0);
        due("the new transaction", x.read(0, 0), 255);
        for (int place = 1; place < 96; place++) {
            due("does not come back, byte " + place, x.read(place / 16, place % 16), 0);
        }
    }

    private static void beginWhileOpen() {
        CardFiles x = EDGES.cardWith(0, 1, false);
        due("begin", x.begin(), 0);
        due("at once again", x.begin(), OPEN);
        due("update", x.update(0, 0, 5), 0);
        due("again", x.begin(), OPEN);
        due("and again", x.begin(), OPEN);
        due("the update is kept", x.read(0, 0), 5);
        due("one commit ends it", x.commit(), 0);
        due("none is left", x.commit(), OPEN);
        due("committed", x.read(0, 0), 5);
        due("begin", x.begin(), 0);
        due("refused", x.begin(), OPEN);
        due("update", x.update(0, 0, 6), 0);
        due("one abort ends it", x.abort(), 0);
        due("none is left", x.abort(), OPEN);
        due("aborted", x.read(0, 0), 5);
    }

    private static void beginOtherwise() {
        due("blocked", EDGES.blockedCard().begin(), 0);
        due("verified", EDGES.verifiedCard().begin(), 0);
        due("all files", EDGES.fullCard().begin(), 0);
        CardFiles x = new CardFiles();
        due("no file", x.begin(), 0);
        due("commit", x.commit(), 0);
        due("after commit", x.begin(), 0);
        due("abort", x.abort(), 0);
        due("after abort", x.begin(), 0);
        x.power();
        due("after power", x.begin(), 0);
        x.torn(true, 0);
        due("after torn", x.begin(), 0);
        x.torn(false, 0);
        due("after torn, not marked", x.begin(), 0);
    }

    private static void commitEmpty() {
        CardFiles x = EDGES.fullCard();
        EDGES.fill(x, 7);
        due("begin", x.begin(), 0);
        due("commit", x.commit(), 0);
        EDGES.filled("as before", x, 7);
        x.power();
        EDGES.filled("as before, after power", x, 7);
    }

    private static void commitNoneOpen() {
        CardFiles x = EDGES.cardWith(0, 1, false);
        due("after create", x.commit(), OPEN);
        due("update", x.update(0, 0, 9), 0);
        due("after update", x.commit(), OPEN);
        due("begin", x.begin(), 0);
        due("commit", x.commit(), 0);
        due("after commit", x.commit(), OPEN);
        due("begin", x.begin(), 0);
        due("abort", x.abort(), 0);
        due("after abort", x.commit(), OPEN);
        due("begin", x.begin(), 0);
        x.power();
        due("after power", x.commit(), OPEN);
        due("begin", x.begin(), 0);
        x.torn(true, 0);
        due("after torn", x.commit(), OPEN);
        due("begin", x.begin(), 0);
        x.torn(false, 0);
        due("after torn, not marked", x.commit(), OPEN);
        due("the byte as it was", x.read(0, 0), 9);
    }

    private static void commitOtherwise() {
        CardFiles x = EDGES.verifiedCard();
        due("create", x.create(0, 1, true), 0);
        due("begin", x.begin(), 0);
        due("update", x.update(0, 0, 9), 0);
        due("wrong", x.verify(0), 2);
        due("no longer verified", x.commit(), 0);
        due("verify", x.verify(1234), 3);
        due("committed", x.read(0, 0), 9);
        due("begin", x.begin(), 0);
        due("update", x.update(0, 0, 10), 0);
        EDGES.block(x);
        due("blocked", x.commit(), 0);
        due("blocked is not open", x.commit(), OPEN);
        due("blocked is locked", x.read(0, 0), Edges.LOCKED);
    }

    private static void abortEmpty() {
        CardFiles x = EDGES.fullCard();
        EDGES.fill(x, 7);
        due("begin", x.begin(), 0);
        due("abort", x.abort(), 0);
        EDGES.filled("as before", x, 7);
        x.power();
        EDGES.filled("as before, after power", x, 7);
    }

    private static void abortNoMore() {
        CardFiles x = EDGES.verifiedCard();
        due("create", x.create(0, 2, false), 0);
        due("change", x.change(77), 0);
        due("update", x.update(0, 0, 1), 0);
        due("begin", x.begin(), 0);
        due("update", x.update(0, 1, 2), 0);
        due("commit", x.commit(), 0);
        due("begin", x.begin(), 0);
        due("update", x.update(0, 0, 3), 0);
        due("update", x.update(0, 1, 4), 0);
        due("abort", x.abort(), 0);
        due("the file stays", x.size(0), 2);
        due("the update before stays", x.read(0, 0), 1);
        due("the commit before stays", x.read(0, 1), 2);
        due("verified as it was", x.state(), 7);
        due("the code stays", x.verify(77), 3);
    }

    private static void abortNoneOpen() {
        CardFiles x = EDGES.cardWith(0, 1, false);
        due("after create", x.abort(), OPEN);
        due("update", x.update(0, 0, 9), 0);
        due("after update", x.abort(), OPEN);
        due("the update stays", x.read(0, 0), 9);
        due("begin", x.begin(), 0);
        due("update", x.update(0, 0, 10), 0);
        due("commit", x.commit(), 0);
        due("after commit", x.abort(), OPEN);
        due("the commit stays", x.read(0, 0), 10);
        due("begin", x.begin(), 0);
        due("abort", x.abort(), 0);
        due("after abort", x.abort(), OPEN);
        due("begin", x.begin(), 0);
        x.power();
        due("after power", x.abort(), OPEN);
        due("begin", x.begin(), 0);
        x.torn(true, 0);
        due("after torn", x.abort(), OPEN);
        due("begin", x.begin(), 0);
        x.torn(false, 0);
        due("after torn, not marked", x.abort(), OPEN);
        due("the byte as it was", x.read(0, 0), 10);
    }

    private static void abortOtherwise() {
        CardFiles x = EDGES.verifiedCard();
        due("create", x.create(0, 1, true), 0);
        due("begin", x.begin(), 0);
        due("update", x.update(0, 0, 9), 0);
        due("wrong", x.verify(0), 2);
        due("no longer verified", x.abort(), 0);
        due("the try is not given back", x.state(), 2);
        due("verify", x.verify(1234), 3);
        due("forgotten", x.read(0, 0), 0);
        due("begin", x.begin(), 0);
        EDGES.block(x);
        due("blocked", x.abort(), 0);
        due("blocked as before", x.verify(1234), Edges.BLOCKED);
    }
}
