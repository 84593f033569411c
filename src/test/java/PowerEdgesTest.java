/** The boundary cases of the promises on power cuts: 10 power, 11 torn, and of the last change. */
public final class PowerEdgesTest {
    private static final int BAD = Edges.BAD;
    private static final int OPEN = Edges.OPEN;
    private static final int LOCKED = Edges.LOCKED;
    private static final Edges EDGES = new Edges();

    // The kinds of change, as bits of a mask that says which of them have happened.
    private static final int CREATE = 1;
    private static final int CHANGE = 2;
    private static final int UPDATE = 4;
    private static final int COMMIT = 8;
    private static final int[] KINDS = {CREATE, CHANGE, UPDATE, COMMIT};

    public static void main(String[] args) {
        EDGES.sentence("Terms: the last change is the last call of the four", PowerEdgesTest::lastOfTheFour);
        EDGES.sentence("Terms: the last of two calls of one kind", PowerEdgesTest::lastOfOneKind);
        EDGES.sentence("Terms: that answered 0", PowerEdgesTest::refusedIsNoChange);
        EDGES.sentence("Terms: that answered 0, though all stays the same", PowerEdgesTest::sameIsAChange);
        EDGES.sentence("Terms: an update counting only if none was open", PowerEdgesTest::updateInTransaction);
        EDGES.sentence("Terms: no other call is a change", PowerEdgesTest::otherCallsAreNoChange);
        EDGES.sentence("Terms: there is none at the start", PowerEdgesTest::noneAtTheStart);
        EDGES.sentence("Terms: there is none any more after power", PowerEdgesTest::noneAfterPower);
        EDGES.sentence("Terms: there is none any more after torn", PowerEdgesTest::noneAfterTorn);

        EDGES.sentence("10: an open transaction is forgotten", PowerEdgesTest::powerForgets);
        EDGES.sentence("10: with no transaction open", PowerEdgesTest::powerKeepsChanges);
        EDGES.sentence("10: the card is not verified", PowerEdgesTest::powerEndsVerified);

        EDGES.sentence("11: as power, an open transaction is forgotten", PowerEdgesTest::tornForgets);
        EDGES.sentence("11: as power, the card is not verified", PowerEdgesTest::tornEndsVerified);
        EDGES.sentence("11: if there is one", PowerEdgesTest::tornWithNoChange);
        EDGES.sentence("11: if marked is false, it has not happened", PowerEdgesTest::tornUndoes);
        EDGES.sentence("11: if marked is true, it has happened wholly", PowerEdgesTest::tornKeeps);
        EDGES.sentence("11: a change of all bytes", PowerEdgesTest::tornFullCommit);
        EDGES.sentence("11: as they were before that call", PowerEdgesTest::tornUndoesOneCallAlone);
        EDGES.sentence("11: pages doesn't matter", PowerEdgesTest::pagesDoNotMatter);
        EDGES.end();
    }

    private static void due(String call, int got, int want) {
        EDGES.due(call, got, want);
    }

    /** A verified card with two files and no last change. */
    private static CardFiles quietCard() {
        CardFiles x = EDGES.cardWith(0, 16, false);
        due("create(1, 16, true)", x.create(1, 16, true), 0);
        due("update(0, 0, 50)", x.update(0, 0, 50), 0);
        x.power();
        due("verify(1234)", x.verify(1234), 3);
        return x;
    }

    private static void make(CardFiles x, int kind) {
        switch (kind) {
            case CREATE -> due("create", x.create(5, 16, true), 0);
            case CHANGE -> due("change", x.change(9999), 0);
            case UPDATE -> due("update", x.update(0, 15, 255), 0);
            default -> {
                due("begin", x.begin(), 0);
                due("update", x.update(0, 0, 1), 0);
                due("update", x.update(1, 15, 2), 0);
                due("commit", x.commit(), 0);
            }
        }
    }

    /** Leaves the card verified. */
    private static void happened(String when, CardFiles x, int kinds) {
        boolean created = (kinds & CREATE) != 0;
        boolean committed = (kinds & COMMIT) != 0;
        due(when + ": the code", x.verify((kinds & CHANGE) != 0 ? 9999 : 1234), 3);
        due(when + ": size(5)", x.size(5), created ? 16 : 0);
        due(when + ": read(5, 15)", x.read(5, 15), created ? 0 : BAD);
        due(when + ": read(0, 15)", x.read(0, 15), (kinds & UPDATE) != 0 ? 255 : 0);
        due(when + ": read(0, 0)", x.read(0, 0), committed ? 1 : 50);
        due(when + ": read(1, 15)", x.read(1, 15), committed ? 2 : 0);
        due(when + ": size(0)", x.size(0), 16);
        due(when + ": size(1)", x.size(1), 16);
    }

    private static void lastOfTheFour() {
        for (int first : KINDS) {
            for (int second : KINDS) {
                if (first != second) {
                    CardFiles x = quietCard();
                    make(x, first);
                    make(x, second);
                    happened("before torn", x, first | second);
                    x.torn(false, 0);
                    happened(first + " then " + second, x, first);
                }
            }
        }
    }

    private static void lastOfOneKind() {
        CardFiles x = EDGES.cardWith(0, 2, false);
        due("second create", x.create(1, 2, false), 0);
        x.torn(false, 0);
        due("the first create stays", x.size(0), 2);
        due("the second is undone", x.size(1), 0);
        due("update", x.update(0, 0, 1), 0);
        due("update of the same byte", x.update(0, 0, 2), 0);
        x.torn(false, 0);
        due("the first update stays", x.read(0, 0), 1);
        due("begin", x.begin(), 0);
        due("update", x.update(0, 0, 3), 0);
        due("commit", x.commit(), 0);
        due("begin", x.begin(), 0);
        due("update", x.update(0, 0, 4), 0);
        due("commit", x.commit(), 0);
        x.torn(false, 0);
        due("the first commit stays", x.read(0, 0), 3);
        due("verify", x.verify(1234), 3);
        due("change", x.change(5), 0);
        due("second change", x.change(6), 0);
        x.torn(false, 0);
        due("the second change is undone", x.verify(6), 2);
        due("the first change stays", x.verify(5), 3);
    }

    private static void refusedIsNoChange() {
        for (int kind : KINDS) {
            CardFiles x = quietCard();
            make(x, kind);
            due("create there", x.create(0, 1, false), BAD);
            due("create size", x.create(4, 17, false), BAD);
            due("update offset", x.update(0, 16, 1), BAD);
            due("update not there", x.update(4, 0, 1), BAD);
            due("change", x.change(10000), BAD);
            due("commit", x.commit(), OPEN);
            due("begin", x.begin(), 0);
            due("create open", x.create(4, 1, false), OPEN);
            due("change open", x.change(1), OPEN);
            due("abort", x.abort(), 0);
            due("wrong", x.verify(-1), 2);
            due("change locked", x.change(1), LOCKED);
            due("update locked", x.update(1, 0, 1), LOCKED);
            x.torn(false, 0);
            happened("refused calls after " + kind, x, 0);
        }
    }

    private static void sameIsAChange() {
        for (int kind : KINDS) {
            CardFiles x = quietCard();
            make(x, kind);
            due("begin", x.begin(), 0);
            due("empty commit", x.commit(), 0);
            x.torn(false, 0);
            happened("an empty commit after " + kind, x, kind);

            CardFiles y = quietCard();
            make(y, kind);
            due("update to the same value", y.update(0, 7, 0), 0);
            y.torn(false, 0);
            happened("an update to the same value after " + kind, y, kind);

            CardFiles z = quietCard();
            make(z, kind);
            due("change to the same code", z.change(kind == CHANGE ? 9999 : 1234), 0);
            z.torn(false, 0);
            happened("a change to the same code after " + kind, z, kind);
        }
    }

    private static void updateInTransaction() {
        for (int kind : KINDS) {
            CardFiles x = quietCard();
            make(x, kind);
            due("begin", x.begin(), 0);
            due("update", x.update(0, 0, 99), 0);
            due("update", x.update(1, 15, 98), 0);
            x.torn(false, 0);
            happened("open transaction after " + kind, x, 0);

            CardFiles y = quietCard();
            make(y, kind);
            due("begin", y.begin(), 0);
            due("update", y.update(0, 0, 99), 0);
            due("abort", y.abort(), 0);
            y.torn(false, 0);
            happened("aborted transaction after " + kind, y, 0);
        }
    }

    private static void otherCallsAreNoChange() {
        for (int kind : KINDS) {
            CardFiles x = quietCard();
            make(x, kind);
            due("begin", x.begin(), 0);
            due("abort", x.abort(), 0);
            due("read", x.read(0, 1), 0);
            due("size", x.size(0), 16);
            due("state", x.state(), 7);
            due("wrong verify", x.verify(-1), 2);
            due("right verify", x.verify(kind == CHANGE ? 9999 : 1234), 3);
            due("begin", x.begin(), 0);
            x.torn(false, 0);
            happened("other calls after " + kind, x, 0);
        }
    }

    private static void noneAtTheStart() {
        CardFiles x = new CardFiles();
        x.torn(false, 0);
        due("the code as at the start", x.verify(1234), 3);
        for (int file = 0; file < 6; file++) {
            due("no file", x.size(file), 0);
        }
        CardFiles y = new CardFiles();
        due("wrong", y.verify(0), 2);
        due("begin", y.begin(), 0);
        y.torn(false, 0);
        due("the tries as they were", y.state(), 2);
        due("the code as at the start", y.verify(1234), 3);
    }

    private static void noneAfterPower() {
        for (int kind : KINDS) {
            CardFiles x = quietCard();
            make(x, kind);
            x.power();
            x.torn(false, 0);
            happened("power after " + kind, x, kind);
            due("begin", x.begin(), 0);
            due("update", x.update(0, 0, 99), 0);
            due("abort", x.abort(), 0);
            x.torn(false, 0);
            happened("power, abort after " + kind, x, kind);
        }
    }

    private static void noneAfterTorn() {
        for (int kind : KINDS) {
            CardFiles x = quietCard();
            make(x, kind);
            x.torn(true, 0);
            x.torn(false, 0);
            happened("marked, then not, after " + kind, x, kind);
            for (int earlier : KINDS) {
                if (earlier != kind) {
                    CardFiles y = quietCard();
                    make(y, earlier);
                    make(y, kind);
                    y.torn(false, 0);
                    y.torn(false, 0);
                    happened("twice not marked after " + earlier + ", " + kind, y, earlier);
                }
            }
        }
    }

    private static void powerForgets() {
        CardFiles x = EDGES.fullCard();
        due("begin", x.begin(), 0);
        EDGES.fill(x, 5);
        x.power();
        EDGES.allZero("forgotten", x);
        due("none open", x.commit(), OPEN);
        due("begin", x.begin(), 0);
        x.power();
        due("an empty one, none open", x.abort(), OPEN);
        due("begin", x.begin(), 0);
        due("commit", x.commit(), 0);
        EDGES.allZero("does not come back", x);
    }

    private static void powerKeepsChanges() {
        CardFiles x = quietCard();
        for (int kind : KINDS) {
            make(x, kind);
        }
        x.power();
        x.power();
        happened("after two power cuts", x, CREATE | CHANGE | UPDATE | COMMIT);
        for (int kind : KINDS) {
            CardFiles single = quietCard();
            make(single, kind);
            single.power();
            happened("alone, " + kind, single, kind);
        }
        CardFiles y = new CardFiles();
        y.power();
        due("a new card", y.state(), 3);
        due("a new card's code", y.verify(1234), 3);
    }

    private static void powerEndsVerified() {
        CardFiles x = quietCard();
        due("verified", x.state(), 7);
        x.power();
        due("not verified", x.state(), 3);
        due("read", x.read(1, 0), LOCKED);
        due("update", x.update(1, 0, 1), LOCKED);
        due("change", x.change(1), LOCKED);
        x.power();
        due("a second time", x.state(), 3);
    }

    private static void tornForgets() {
        for (int marked = 0; marked < 2; marked++) {
            CardFiles x = EDGES.fullCard();
            due("update", x.update(0, 0, 0), 0);
            due("begin", x.begin(), 0);
            EDGES.fill(x, 5);
            x.torn(marked == 1, 0);
            EDGES.allZero("forgotten", x);
            due("none open", x.commit(), OPEN);
            due("none open", x.abort(), OPEN);
            due("begin", x.begin(), 0);
            due("commit", x.commit(), 0);
            EDGES.allZero("does not come back", x);
        }
    }

    private static void tornEndsVerified() {
        for (int marked = 0; marked < 2; marked++) {
            CardFiles x = quietCard();
            x.torn(marked == 1, 0);
            due("with no last change", x.state(), 3);
            due("read", x.read(1, 0), LOCKED);
            due("verify", x.verify(1234), 3);
            make(x, CHANGE);
            x.torn(marked == 1, 0);
            due("in the middle of change", x.state(), 3);
            due("change", x.change(1), LOCKED);
            due("verify", x.verify(marked == 1 ? 9999 : 1234), 3);
            make(x, UPDATE);
            x.torn(marked == 1, 0);
            due("in the middle of update", x.state(), 3);
            due("update", x.update(1, 0, 1), LOCKED);
        }
    }

    private static void tornWithNoChange() {
        for (int marked = 0; marked < 2; marked++) {
            CardFiles x = quietCard();
            x.torn(marked == 1, 0);
            happened("no last change, marked " + marked, x, 0);
            due("begin", x.begin(), 0);
            due("update", x.update(0, 0, 77), 0);
            x.torn(marked == 1, 0);
            happened("no last change but open, marked " + marked, x, 0);
        }
    }

    private static void tornUndoes() {
        for (int kind : KINDS) {
            CardFiles x = quietCard();
            make(x, kind);
            happened("before", x, kind);
            x.torn(false, 0);
            happened("undone " + kind, x, 0);
            make(x, kind);
            happened("made anew " + kind, x, kind);
            x.power();
            happened("lasting anew " + kind, x, kind);
        }
    }

    private static void tornKeeps() {
        for (int kind : KINDS) {
            CardFiles x = quietCard();
            make(x, kind);
            x.torn(true, 0);
            happened("kept " + kind, x, kind);
            due("begin", x.begin(), 0);
            due("update", x.update(0, 3, 3), 0);
            x.torn(true, 0);
            happened("kept, with an open transaction forgotten " + kind, x, kind);
            due("forgotten", x.read(0, 3), 0);
        }
    }

    private static void tornFullCommit() {
        for (int marked = 0; marked < 2; marked++) {
            CardFiles x = EDGES.fullCard();
            due("begin", x.begin(), 0);
            EDGES.fill(x, 160);
            due("commit", x.commit(), 0);
            x.torn(marked == 1, 48);
            if (marked == 1) {
                EDGES.filled("wholly", x, 160);
            } else {
                EDGES.allZero("not at all", x);
            }
            due("begin", x.begin(), 0);
            due("abort", x.abort(), 0);
            if (marked == 1) {
                EDGES.filled("wholly, still", x, 160);
            } else {
                EDGES.allZero("not at all, still", x);
            }
        }
    }

    private static void tornUndoesOneCallAlone() {
        CardFiles x = EDGES.fullCard();
        EDGES.fill(x, 1);
        int[] before = Edges.look(x);
        due("update", x.update(3, 8, 255), 0);
        x.torn(false, 0);
        EDGES.same("all but the update", Edges.look(x), before);
        // An undone commit brings back the bytes from before it, not zeros.
        due("begin", x.begin(), 0);
        due("update", x.update(0, 0, 254), 0);
        due("update", x.update(5, 15, 253), 0);
        due("commit", x.commit(), 0);
        x.torn(false, 0);
        EDGES.same("all but the commit", Edges.look(x), before);
    }

    private static void pagesDoNotMatter() {
        int[] pages = {Edges.LEAST, -1, 0, 1, 2, 6, 16, 17, 96, 97, 109, 255, 256, 512, Edges.GREATEST};
        for (int kind : KINDS) {
            for (int count : pages) {
                CardFiles x = quietCard();
                make(x, kind);
                x.torn(false, count);
                happened("undone " + kind + ", pages " + count, x, 0);
                CardFiles y = quietCard();
                make(y, kind);
                y.torn(true, count);
                happened("kept " + kind + ", pages " + count, y, kind);
                CardFiles z = quietCard();
                z.torn(false, count);
                happened("no last change, pages " + count, z, 0);
            }
        }
    }
}
