/** The boundary cases of the promises on the code: 8 verify, 9 change, 13 state. */
public final class CodeEdgesTest {
    private static final int BAD = Edges.BAD;
    private static final int OPEN = Edges.OPEN;
    private static final int LOCKED = Edges.LOCKED;
    private static final int BLOCKED = Edges.BLOCKED;
    private static final Edges EDGES = new Edges();

    public static void main(String[] args) {
        EDGES.sentence("Terms: the code is 1234 at the start", CodeEdgesTest::codeAtTheStart);
        EDGES.sentence("Terms: the code is a number from 0 to 9999", CodeEdgesTest::eachCode);
        EDGES.sentence("Terms: from 0 to 3 tries left", CodeEdgesTest::triesStayInRange);
        EDGES.sentence("Terms: 3 tries at the start", CodeEdgesTest::triesAtTheStart);
        EDGES.sentence("Terms: not verified at the start", CodeEdgesTest::notVerifiedAtTheStart);

        EDGES.sentence("8: BLOCKED if no tries are left", CodeEdgesTest::verifyBlocked);
        EDGES.sentence("8: if code is the card's code, 3 tries and verified", CodeEdgesTest::verifyRight);
        EDGES.sentence("8: else one try less and not verified", CodeEdgesTest::verifyWrong);
        EDGES.sentence("8: code is no number from 0 to 9999", CodeEdgesTest::verifyNoCodeAtAll);
        EDGES.sentence("8: no part of a transaction", CodeEdgesTest::verifyInTransaction);
        EDGES.sentence("8: lasts whatever happens", CodeEdgesTest::triesLast);

        EDGES.sentence("9: BAD if newCode is not from 0 to 9999", CodeEdgesTest::changeWrongCode);
        EDGES.sentence("9: LOCKED if the card is not verified", CodeEdgesTest::changeLocked);
        EDGES.sentence("9: OPEN if a transaction is open", CodeEdgesTest::changeWhileOpen);
        EDGES.sentence("9: BAD before LOCKED before OPEN", CodeEdgesTest::changeRefusalsInOrder);
        EDGES.sentence("9: otherwise answers 0", CodeEdgesTest::changeOtherwise);

        EDGES.sentence("13: the number of tries left", CodeEdgesTest::stateNotVerified);
        EDGES.sentence("13: plus 4 if the card is verified", CodeEdgesTest::stateVerified);
        EDGES.end();
    }

    private static void due(String call, int got, int want) {
        EDGES.due(call, got, want);
    }

    private static void codeAtTheStart() {
        for (int code = 0; code <= 9999; code++) {
            due("verify " + code, new CardFiles().verify(code), code == 1234 ? 3 : 2);
        }
    }

    private static void eachCode() {
        for (int code = 0; code <= 9999; code++) {
            CardFiles x = EDGES.verifiedCard();
            due("change to " + code, x.change(code), 0);
            due("one below " + code, x.verify(code - 1), 2);
            due("one above " + code, x.verify(code + 1), 1);
            due("code " + code, x.verify(code), 3);
        }
    }

    private static void triesStayInRange() {
        CardFiles x = new CardFiles();
        for (int i = 0; i < 10; i++) {
            due("never above 3", x.verify(1234), 3);
        }
        due("never above 3", x.state(), 7);
        EDGES.block(x);
        for (int i = 0; i < 10; i++) {
            due("none to lose", x.verify(0), BLOCKED);
            due("never below 0", x.state(), 0);
        }
    }

    private static void triesAtTheStart() {
        CardFiles x = new CardFiles();
        due("state", x.state(), 3);
        EDGES.block(x);
        due("the fourth", x.verify(1234), BLOCKED);
    }

    private static void notVerifiedAtTheStart() {
        CardFiles x = EDGES.cardWith(0, 1, true);
        due("state", x.state(), 3);
        due("read", x.read(0, 0), LOCKED);
        due("update", x.update(0, 0, 1), LOCKED);
        due("change", x.change(1), LOCKED);
    }

    private static void verifyBlocked() {
        CardFiles x = EDGES.blockedCard();
        due("the code", x.verify(1234), BLOCKED);
        due("another code", x.verify(0), BLOCKED);
        for (int code : Edges.WRONG_CODES) {
            due("code " + code, x.verify(code), BLOCKED);
        }
        due("state", x.state(), 0);
        due("begin", x.begin(), 0);
        due("in a transaction", x.verify(1234), BLOCKED);
        due("commit", x.commit(), 0);
        due("after commit", x.verify(1234), BLOCKED);
        due("begin", x.begin(), 0);
        due("abort", x.abort(), 0);
        due("after abort", x.verify(1234), BLOCKED);
        x.power();
        due("after power", x.verify(1234), BLOCKED);
        x.torn(true, 0);
        due("after torn", x.verify(1234), BLOCKED);
        due("create", x.create(0, 1, false), 0);
        x.torn(false, 0);
        due("after torn and undone", x.verify(1234), BLOCKED);
        due("state at the end", x.state(), 0);
    }

    private static void verifyRight() {
        for (int wrong = 0; wrong <= 2; wrong++) {
            CardFiles x = EDGES.cardWith(0, 1, true);
            for (int i = 1; i <= wrong; i++) {
                due("wrong", x.verify(i), 3 - i);
            }
            due("right after " + wrong + " wrong", x.verify(1234), 3);
            due("verified", x.state(), 7);
            due("guarded read", x.read(0, 0), 0);
            due("right again", x.verify(1234), 3);
            due("still verified", x.state(), 7);
            due("3 tries again: first", x.verify(0), 2);
            due("3 tries again: second", x.verify(0), 1);
            due("right on the last", x.verify(1234), 3);
        }
    }

    private static void verifyWrong() {
        CardFiles x = EDGES.cardWith(0, 1, true);
        due("verify", x.verify(1234), 3);
        due("wrong while verified", x.verify(1233), 2);
        due("not verified", x.state(), 2);
        due("guarded read", x.read(0, 0), LOCKED);
        due("change", x.change(5), LOCKED);
        due("wrong", x.verify(1235), 1);
        due("not verified", x.state(), 1);
        due("the last try, wrong", x.verify(1235), 0);
        due("not verified", x.state(), 0);
    }

    private static void verifyNoCodeAtAll() {
        for (int code : Edges.WRONG_CODES) {
            CardFiles x = EDGES.verifiedCard();
            due("code " + code + " takes a try", x.verify(code), 2);
            due("not verified by " + code, x.state(), 2);
        }
        int[] alike = {-1234, 1234 + 256, 1234 + 65536, 1234 + 10000, 1234 + Edges.LEAST};
        for (int code : alike) {
            due("alike, " + code, new CardFiles().verify(code), 2);
        }
    }

    private static void verifyInTransaction() {
        CardFiles x = EDGES.cardWith(0, 1, false);
        due("begin", x.begin(), 0);
        due("update", x.update(0, 0, 5), 0);
        due("wrong", x.verify(0), 2);
        due("still open", x.begin(), OPEN);
        due("the update is still there", x.read(0, 0), 5);
        due("abort", x.abort(), 0);
        due("not given back by abort", x.state(), 2);
        due("begin", x.begin(), 0);
        due("wrong", x.verify(0), 1);
        due("commit", x.commit(), 0);
        due("not given back by commit", x.state(), 1);
        due("begin", x.begin(), 0);
        due("right", x.verify(1234), 3);
        due("abort", x.abort(), 0);
        due("not taken back by abort", x.state(), 7);
        due("begin", x.begin(), 0);
        due("commit", x.commit(), 0);
        due("not taken back by commit", x.state(), 7);
    }

    private static void triesLast() {
        for (int left = 0; left <= 2; left++) {
            CardFiles x = EDGES.verifiedCard();
            due("change", x.change(42), 0);
            for (int i = 2; i >= left; i--) {
                due("wrong", x.verify(1234), i);
            }
            x.torn(false, 0);
            due("over an undone change", x.state(), left);
            due("begin", x.begin(), 0);
            x.power();
            due("over power", x.state(), left);
            due("create", x.create(0, 1, false), 0);
            x.torn(true, 0);
            due("over a change that happened", x.state(), left);
        }
        CardFiles y = new CardFiles();
        due("wrong", y.verify(0), 2);
        due("wrong", y.verify(0), 1);
        due("create", y.create(0, 1, false), 0);
        due("right", y.verify(1234), 3);
        y.torn(false, 0);
        due("3 tries over an undone change", y.state(), 3);
    }

    private static void changeWrongCode() {
        CardFiles x = EDGES.verifiedCard();
        for (int code : Edges.WRONG_CODES) {
            due("change to " + code, x.change(code), BAD);
            due("still verified", x.state(), 7);
            due("the code as it was", x.verify(1234), 3);
        }
        due("the least", x.change(0), 0);
        due("is the code", x.verify(0), 3);
        due("the greatest", x.change(9999), 0);
        due("is the code", x.verify(9999), 3);
    }

    private static void changeLocked() {
        CardFiles x = new CardFiles();
        due("never verified", x.change(0), LOCKED);
        due("wrong", x.verify(0), 2);
        due("wrongly tried", x.change(0), LOCKED);
        due("verify", x.verify(1234), 3);
        x.power();
        due("after power", x.change(9999), LOCKED);
        due("verify", x.verify(1234), 3);
        x.torn(true, 0);
        due("after torn", x.change(9999), LOCKED);
        due("verify", x.verify(1234), 3);
        due("wrong", x.verify(0), 2);
        due("after a wrong code", x.change(1), LOCKED);
        due("the code as it was", x.verify(1234), 3);
        EDGES.block(x);
        due("blocked", x.change(1), LOCKED);
    }

    private static void changeWhileOpen() {
        CardFiles x = EDGES.verifiedCard();
        due("begin", x.begin(), 0);
        due("the least, open", x.change(0), OPEN);
        due("the greatest, open", x.change(9999), OPEN);
        due("the same, open", x.change(1234), OPEN);
        due("commit", x.commit(), 0);
        due("the code as it was", x.verify(1234), 3);
        due("after commit", x.change(0), 0);
        due("begin", x.begin(), 0);
        due("open again", x.change(1), OPEN);
        due("abort", x.abort(), 0);
        due("the code as it was", x.verify(0), 3);
        due("after abort", x.change(1), 0);
        due("begin", x.begin(), 0);
        x.power();
        due("verify", x.verify(1), 3);
        due("after power", x.change(2), 0);
        due("begin", x.begin(), 0);
        x.torn(true, 0);
        due("verify", x.verify(2), 3);
        due("after torn", x.change(3), 0);
    }

    private static void changeRefusalsInOrder() {
        // Bits of the mask: 1 wrong code, 2 not verified, 4 open.
        for (int mask = 0; mask < 8; mask++) {
            CardFiles x = new CardFiles();
            if ((mask & 2) == 0) {
                due("verify", x.verify(1234), 3);
            }
            if ((mask & 4) != 0) {
                due("begin", x.begin(), 0);
            }
            boolean wrong = (mask & 1) != 0;
            int want = wrong ? BAD : (mask & 2) != 0 ? LOCKED : (mask & 4) != 0 ? OPEN : 0;
            due("refusals " + mask, x.change(wrong ? -1 : 0), want);
            if (wrong) {
                due("refusals " + mask + ", too large", x.change(10000), want);
            }
        }
    }

    private static void changeOtherwise() {
        CardFiles x = EDGES.verifiedCard();
        due("to the same", x.change(1234), 0);
        due("is the code", x.verify(1234), 3);
        due("to another", x.change(5), 0);
        due("twice", x.change(6), 0);
        due("still verified", x.state(), 7);
        due("neither the first", x.verify(1234), 2);
        due("nor the second", x.verify(5), 1);
        due("but the last", x.verify(6), 3);
        x.power();
        due("lasting", x.verify(6), 3);
    }

    private static void stateNotVerified() {
        CardFiles x = new CardFiles();
        due("3", x.state(), 3);
        for (int left = 2; left >= 0; left--) {
            due("wrong", x.verify(0), left);
            due("" + left, x.state(), left);
        }
        due("refused", x.verify(1234), BLOCKED);
        due("0 again", x.state(), 0);
    }

    private static void stateVerified() {
        CardFiles x = EDGES.verifiedCard();
        due("verified", x.state(), 7);
        due("asked again", x.state(), 7);
        due("begin", x.begin(), 0);
        due("open", x.state(), 7);
        due("abort", x.abort(), 0);
        due("change", x.change(0), 0);
        due("after change", x.state(), 7);
        x.power();
        due("after power", x.state(), 3);
        due("verify", x.verify(0), 3);
        due("verified", x.state(), 7);
        x.torn(true, 0);
        due("after torn", x.state(), 3);
    }
}
