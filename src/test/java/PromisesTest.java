/** Each promise of the document in turn: ordinary inputs, its edges, wrong inputs. */
public final class PromisesTest {
    private static final int BAD = -1;
    private static final int OPEN = -2;
    private static final int LOCKED = -3;
    private static final int BLOCKED = -4;
    private static final int LEAST = Integer.MIN_VALUE;
    private static final int GREATEST = Integer.MAX_VALUE;
    private static final int[] WRONG_FILES = {LEAST, -17, -1, 6, 7, 22, GREATEST};

    private static final Checks CHECKS = new Checks();
    private static String part = "";

    public static void main(String[] args) {
        newObject();
        createMakesFiles();
        createRefuses();
        createRefusesInOrder();
        updateWrites();
        updateRefuses();
        readAnswersBytes();
        readRefuses();
        beginOpens();
        commitMakesLasting();
        commitRefuses();
        abortForgets();
        abortRefuses();
        verifyCountsTries();
        verifyIsNoPartOfATransaction();
        changeSetsTheCode();
        changeRefusesInOrder();
        powerForgets();
        powerEndsTheLastChange();
        tornUndoesUpdate();
        tornUndoesCreate();
        tornUndoesChange();
        tornUndoesCommit();
        tornUndoesOnlyTheLastChange();
        tornLeavesWhatIsNoChange();
        tornIsAPowerCut();
        tornTakesAnyPages();
        sizeAnswers();
        stateAnswers();
        CHECKS.end();
    }

    private static void part(String name) {
        part = name;
    }

    private static void due(String call, int got, int want) {
        CHECKS.due(part + ": " + call, got, want);
    }

    private static CardFiles verifiedCard() {
        CardFiles x = new CardFiles();
        due("verify(1234)", x.verify(1234), 3);
        return x;
    }

    private static CardFiles cardWithFile(int file, int size) {
        CardFiles x = new CardFiles();
        due("create", x.create(file, size, false), 0);
        return x;
    }

    private static void newObject() {
        part("1 a new object");
        CardFiles x = new CardFiles();
        due("state", x.state(), 3);
        for (int file = 0; file < 6; file++) {
            due("size " + file, x.size(file), 0);
            due("read " + file, x.read(file, 0), BAD);
            due("update " + file, x.update(file, 0, 1), BAD);
        }
        due("commit", x.commit(), OPEN);
        due("abort", x.abort(), OPEN);
        due("change before verify", x.change(1), LOCKED);
        x.torn(false, 0);
        due("state after torn with no change", x.state(), 3);
        due("verify the first code", x.verify(1234), 3);
        CardFiles y = new CardFiles();
        due("another object is not verified", y.state(), 3);
    }

    private static void createMakesFiles() {
        part("2 create");
        CardFiles x = verifiedCard();
        int[] sizes = {1, 16, 2, 15, 8, 16};
        for (int file = 0; file < 6; file++) {
            due("create " + file, x.create(file, sizes[file], file % 2 == 1), 0);
        }
        for (int file = 0; file < 6; file++) {
            due("size " + file, x.size(file), sizes[file]);
            for (int offset = 0; offset < sizes[file]; offset++) {
                due("read " + file + " " + offset, x.read(file, offset), 0);
            }
            due("read past " + file, x.read(file, sizes[file]), BAD);
        }
        x.power();
        for (int file = 0; file < 6; file++) {
            due("guard " + file, x.read(file, 0), file % 2 == 1 ? LOCKED : 0);
        }
        CardFiles y = new CardFiles();
        due("guarded create while not verified", y.create(0, 1, true), 0);
    }

    private static void createRefuses() {
        part("2 create refuses");
        CardFiles x = new CardFiles();
        for (int file : WRONG_FILES) {
            due("create " + file, x.create(file, 1, false), BAD);
        }
        for (int size : new int[] {LEAST, -1, 0, 17, 18, 256 + 1, GREATEST}) {
            due("create size " + size, x.create(0, size, false), BAD);
            due("size after", x.size(0), 0);
        }
        due("create", x.create(0, 4, true), 0);
        due("create again", x.create(0, 9, false), BAD);
        due("size stays", x.size(0), 4);
        due("guard stays", x.read(0, 0), LOCKED);
    }

    private static void createRefusesInOrder() {
        part("2 create refuses in order");
        CardFiles x = cardWithFile(0, 4);
        due("begin", x.begin(), 0);
        due("there and open", x.create(0, 4, false), BAD);
        due("no file number and open", x.create(6, 4, false), BAD);
        due("size and open", x.create(1, 17, false), BAD);
        due("open", x.create(1, 4, false), OPEN);
        due("size after", x.size(1), 0);
        due("commit", x.commit(), 0);
        due("size after commit", x.size(1), 0);
        due("create", x.create(1, 4, false), 0);
    }

    private static void updateWrites() {
        part("3 update");
        CardFiles x = new CardFiles();
        for (int file = 0; file < 6; file++) {
            due("create " + file, x.create(file, 16, false), 0);
        }
        for (int file = 0; file < 6; file++) {
            for (int offset = 0; offset < 16; offset++) {
                due("update", x.update(file, offset, 100 + file * 16 + offset), 0);
            }
        }
        for (int file = 0; file < 6; file++) {
            for (int offset = 0; offset < 16; offset++) {
                due("read " + file + " " + offset, x.read(file, offset), 100 + file * 16 + offset);
            }
        }
        for (int value : new int[] {0, 1, 127, 128, 255, 256, 257, 511, -1, -128, -256, LEAST, GREATEST}) {
            due("update " + value, x.update(2, 7, value), 0);
            due("read " + value, x.read(2, 7), ((value % 256) + 256) % 256);
        }
        x.power();
        due("lasting", x.read(2, 7), 255);
    }

    private static void updateRefuses() {
        part("3 update refuses");
        CardFiles x = cardWithFile(1, 3);
        due("create guarded", x.create(2, 5, true), 0);
        for (int file : WRONG_FILES) {
            due("update file " + file, x.update(file, 0, 1), BAD);
        }
        due("file not there", x.update(0, 0, 1), BAD);
        for (int offset : new int[] {LEAST, -16, -1, 3, 4, 16, GREATEST}) {
            due("update offset " + offset, x.update(1, offset, 1), BAD);
        }
        due("guarded", x.update(2, 4, 1), LOCKED);
        due("guarded, offset first", x.update(2, 5, 1), BAD);
        due("guarded, offset first", x.update(2, -1, 1), BAD);
        due("not guarded", x.update(1, 2, 8), 0);
        due("verify", x.verify(1234), 3);
        due("refused changed nothing", x.read(2, 4), 0);
        due("guarded and verified", x.update(2, 4, 7), 0);
        due("wrong code", x.verify(1), 2);
        due("guarded again", x.update(2, 4, 9), LOCKED);
        due("verify", x.verify(1234), 3);
        due("read", x.read(2, 4), 7);
    }

    private static void readAnswersBytes() {
        part("4 read");
        CardFiles x = cardWithFile(5, 16);
        due("update", x.update(5, 15, 200), 0);
        due("read", x.read(5, 15), 200);
        due("read twice", x.read(5, 15), 200);
        due("begin", x.begin(), 0);
        due("read lasting in transaction", x.read(5, 15), 200);
        due("update", x.update(5, 15, 201), 0);
        due("read in transaction", x.read(5, 15), 201);
        due("update", x.update(5, 15, 202), 0);
        due("read the newest", x.read(5, 15), 202);
        due("read the neighbour", x.read(5, 14), 0);
    }

    private static void readRefuses() {
        part("4 read refuses");
        CardFiles x = cardWithFile(1, 3);
        due("create guarded", x.create(2, 5, true), 0);
        for (int file : WRONG_FILES) {
            due("read file " + file, x.read(file, 0), BAD);
        }
        due("file not there", x.read(0, 0), BAD);
        for (int offset : new int[] {LEAST, -16, -1, 3, 4, 16, GREATEST}) {
            due("read offset " + offset, x.read(1, offset), BAD);
        }
        due("guarded", x.read(2, 4), LOCKED);
        due("guarded, offset first", x.read(2, 5), BAD);
        due("guarded, offset first", x.read(2, -1), BAD);
        due("verify", x.verify(1234), 3);
        due("verified", x.read(2, 4), 0);
        due("verified, offset", x.read(2, 5), BAD);
    }

    private static void beginOpens() {
        part("5 begin");
        CardFiles x = cardWithFile(0, 2);
        due("begin", x.begin(), 0);
        due("update", x.update(0, 0, 5), 0);
        due("begin again", x.begin(), OPEN);
        due("refused begin keeps the updates", x.read(0, 0), 5);
        due("abort", x.abort(), 0);
        due("begin after abort", x.begin(), 0);
        due("commit", x.commit(), 0);
        due("begin after commit", x.begin(), 0);
        x.power();
        due("begin after power", x.begin(), 0);
        x.torn(true, 0);
        due("begin after torn", x.begin(), 0);
        x.torn(false, 0);
        due("begin after torn", x.begin(), 0);
    }

    private static void commitMakesLasting() {
        part("6 commit");
        CardFiles x = cardWithFile(0, 16);
        due("create", x.create(4, 16, false), 0);
        due("begin", x.begin(), 0);
        for (int offset = 0; offset < 16; offset++) {
            due("update", x.update(0, offset, offset + 1), 0);
            due("update", x.update(4, offset, offset + 101), 0);
        }
        due("update again", x.update(0, 0, 77), 0);
        due("commit", x.commit(), 0);
        due("seen", x.read(0, 0), 77);
        x.power();
        due("lasting", x.read(0, 0), 77);
        for (int offset = 1; offset < 16; offset++) {
            due("lasting 0", x.read(0, offset), offset + 1);
            due("lasting 4", x.read(4, offset), offset + 101);
        }
        CardFiles y = verifiedCard();
        due("create guarded", y.create(3, 2, true), 0);
        due("begin", y.begin(), 0);
        due("update", y.update(3, 1, 9), 0);
        due("wrong code", y.verify(0), 2);
        due("commit while not verified", y.commit(), 0);
        y.power();
        due("verify", y.verify(1234), 3);
        due("lasting", y.read(3, 1), 9);
    }

    private static void commitRefuses() {
        part("6 commit refuses");
        CardFiles x = cardWithFile(0, 1);
        due("none open", x.commit(), OPEN);
        due("update", x.update(0, 0, 4), 0);
        due("none open", x.commit(), OPEN);
        x.torn(false, 0);
        due("a refused commit is no last change", x.read(0, 0), 0);
        due("begin", x.begin(), 0);
        due("commit", x.commit(), 0);
        due("committed already", x.commit(), OPEN);
        due("begin", x.begin(), 0);
        x.power();
        due("after power", x.commit(), OPEN);
        due("begin", x.begin(), 0);
        x.torn(true, 0);
        due("after torn", x.commit(), OPEN);
    }

    private static void abortForgets() {
        part("7 abort");
        CardFiles x = cardWithFile(0, 3);
        due("update", x.update(0, 1, 50), 0);
        due("begin", x.begin(), 0);
        due("update", x.update(0, 0, 1), 0);
        due("update", x.update(0, 1, 2), 0);
        due("abort", x.abort(), 0);
        due("forgotten 0", x.read(0, 0), 0);
        due("forgotten 1", x.read(0, 1), 50);
        due("begin", x.begin(), 0);
        due("update", x.update(0, 2, 3), 0);
        due("commit", x.commit(), 0);
        x.power();
        due("an aborted update does not come back", x.read(0, 0), 0);
        due("an aborted update does not come back", x.read(0, 1), 50);
        due("committed", x.read(0, 2), 3);
        due("update after abort is lasting", x.update(0, 0, 6), 0);
        x.power();
        due("lasting", x.read(0, 0), 6);
    }

    private static void abortRefuses() {
        part("7 abort refuses");
        CardFiles x = cardWithFile(0, 1);
        due("none open", x.abort(), OPEN);
        due("update", x.update(0, 0, 4), 0);
        due("none open", x.abort(), OPEN);
        due("refused abort changes nothing", x.read(0, 0), 4);
        due("begin", x.begin(), 0);
        due("abort", x.abort(), 0);
        due("aborted already", x.abort(), OPEN);
    }

    private static void verifyCountsTries() {
        part("8 verify");
        CardFiles x = new CardFiles();
        for (int code : new int[] {1233, 1235, 0, -1234, 1234 + 65536, LEAST, GREATEST}) {
            due("wrong code " + code, x.verify(code), 2);
            due("not verified", x.state(), 2);
            due("right code", x.verify(1234), 3);
            due("verified", x.state(), 7);
        }
        due("wrong", x.verify(1), 2);
        due("wrong", x.verify(2), 1);
        due("right on the last try", x.verify(1234), 3);
        due("wrong", x.verify(1), 2);
        due("wrong", x.verify(2), 1);
        due("wrong", x.verify(3), 0);
        due("blocked, right code", x.verify(1234), BLOCKED);
        due("blocked, wrong code", x.verify(4), BLOCKED);
        due("blocked", x.state(), 0);
        x.power();
        due("blocked after power", x.verify(1234), BLOCKED);
        x.torn(false, 0);
        due("blocked after torn", x.verify(1234), BLOCKED);
        due("change", x.change(1), LOCKED);
    }

    private static void verifyIsNoPartOfATransaction() {
        part("8 verify in a transaction");
        CardFiles x = new CardFiles();
        due("begin", x.begin(), 0);
        due("wrong", x.verify(1), 2);
        due("abort", x.abort(), 0);
        due("state after abort", x.state(), 2);
        due("begin", x.begin(), 0);
        due("wrong", x.verify(1), 1);
        x.power();
        due("state after power", x.state(), 1);
        due("begin", x.begin(), 0);
        due("right", x.verify(1234), 3);
        due("abort", x.abort(), 0);
        due("still verified after abort", x.state(), 7);
        due("change", x.change(7), 0);
        due("wrong", x.verify(1234), 2);
        x.torn(false, 0);
        due("tries last over torn", x.state(), 2);
        due("code is back", x.verify(1234), 3);
        due("change", x.change(8), 0);
        due("wrong", x.verify(1), 2);
        due("wrong", x.verify(1), 1);
        due("right", x.verify(8), 3);
        x.torn(false, 0);
        due("given back tries last over torn", x.state(), 3);
    }

    private static void changeSetsTheCode() {
        part("9 change");
        for (int code : new int[] {0, 1, 1233, 1235, 9998, 9999}) {
            CardFiles x = verifiedCard();
            due("change " + code, x.change(code), 0);
            due("still verified", x.state(), 7);
            due("old code", x.verify(1234), 2);
            due("new code", x.verify(code), 3);
            x.power();
            due("old code after power", x.verify(1234), 2);
            due("new code after power", x.verify(code), 3);
        }
    }

    private static void changeRefusesInOrder() {
        part("9 change refuses");
        CardFiles x = new CardFiles();
        int[] wrongCodes = {LEAST, -1, 10000, 10001, 65536, GREATEST};
        for (int code : wrongCodes) {
            due("not verified, wrong " + code, x.change(code), BAD);
        }
        due("not verified", x.change(0), LOCKED);
        due("not verified", x.change(9999), LOCKED);
        due("begin", x.begin(), 0);
        due("all three", x.change(10000), BAD);
        due("not verified and open", x.change(5), LOCKED);
        due("verify", x.verify(1234), 3);
        due("wrong and open", x.change(-1), BAD);
        due("open", x.change(5), OPEN);
        due("commit", x.commit(), 0);
        for (int code : wrongCodes) {
            due("verified, wrong " + code, x.change(code), BAD);
        }
        due("the code stays", x.verify(1234), 3);
    }

    private static void powerForgets() {
        part("10 power");
        CardFiles x = verifiedCard();
        due("create", x.create(0, 2, false), 0);
        due("create", x.create(1, 2, true), 0);
        due("update", x.update(0, 0, 11), 0);
        due("begin", x.begin(), 0);
        due("update", x.update(0, 0, 12), 0);
        due("update", x.update(1, 1, 13), 0);
        x.power();
        due("not verified", x.state(), 3);
        due("forgotten", x.read(0, 0), 11);
        due("guarded", x.read(1, 1), LOCKED);
        due("none open", x.abort(), OPEN);
        due("verify", x.verify(1234), 3);
        due("forgotten", x.read(1, 1), 0);
        due("size", x.size(1), 2);
        due("wrong", x.verify(0), 2);
        x.power();
        due("tries stay", x.state(), 2);
    }

    private static void powerEndsTheLastChange() {
        part("10 power ends the last change");
        CardFiles x = verifiedCard();
        due("create", x.create(0, 2, false), 0);
        x.power();
        x.torn(false, 0);
        due("created", x.size(0), 2);
        due("update", x.update(0, 0, 11), 0);
        x.power();
        x.torn(false, 0);
        due("updated", x.read(0, 0), 11);
        due("verify", x.verify(1234), 3);
        due("change", x.change(42), 0);
        x.power();
        x.torn(false, 0);
        due("changed", x.verify(42), 3);
        due("begin", x.begin(), 0);
        due("update", x.update(0, 1, 12), 0);
        due("commit", x.commit(), 0);
        x.power();
        x.torn(false, 0);
        due("committed", x.read(0, 1), 12);
    }

    private static void tornUndoesUpdate() {
        part("11 torn update");
        CardFiles x = cardWithFile(0, 4);
        due("update", x.update(0, 1, 10), 0);
        due("update", x.update(0, 2, 20), 0);
        x.torn(false, 0);
        due("before it", x.read(0, 1), 10);
        due("undone", x.read(0, 2), 0);
        x.torn(false, 0);
        due("no last change any more", x.read(0, 1), 10);
        due("update", x.update(0, 2, 30), 0);
        x.torn(true, 0);
        due("wholly", x.read(0, 2), 30);
        x.torn(false, 0);
        due("no last change after a marked one", x.read(0, 2), 30);
        due("update to the same", x.update(0, 2, 30), 0);
        x.torn(false, 0);
        due("the same", x.read(0, 2), 30);
    }

    private static void tornUndoesCreate() {
        part("11 torn create");
        CardFiles x = cardWithFile(0, 4);
        due("create", x.create(1, 16, true), 0);
        x.torn(false, 0);
        due("size", x.size(1), 0);
        due("read", x.read(1, 0), BAD);
        due("the other file stays", x.size(0), 4);
        due("create anew", x.create(1, 3, false), 0);
        due("size anew", x.size(1), 3);
        due("guard anew", x.read(1, 0), 0);
        x.torn(true, 0);
        due("wholly", x.size(1), 3);
        due("create", x.create(2, 2, false), 0);
        due("begin", x.begin(), 0);
        due("update", x.update(2, 0, 99), 0);
        x.torn(false, 0);
        due("gone with its transaction", x.size(2), 0);
        due("create anew", x.create(2, 2, false), 0);
        due("all bytes 0", x.read(2, 0), 0);
        for (int file = 0; file < 6; file++) {
            CardFiles y = cardWithFile(file, 16);
            y.torn(false, 0);
            due("any file: size " + file, y.size(file), 0);
            due("any file: create anew " + file, y.create(file, 1, false), 0);
            y.torn(true, 0);
            due("any file: size anew " + file, y.size(file), 1);
        }
    }

    private static void tornUndoesChange() {
        part("11 torn change");
        CardFiles x = verifiedCard();
        due("change", x.change(1), 0);
        due("change", x.change(2), 0);
        x.torn(false, 0);
        due("not verified", x.state(), 3);
        due("not the new one", x.verify(2), 2);
        due("not the first one", x.verify(1234), 1);
        due("the one before", x.verify(1), 3);
        due("change", x.change(3), 0);
        x.torn(true, 0);
        due("not the one before", x.verify(1), 2);
        due("the new one", x.verify(3), 3);
    }

    private static void tornUndoesCommit() {
        part("11 torn commit");
        CardFiles x = cardWithFile(0, 4);
        due("create", x.create(5, 4, false), 0);
        due("update", x.update(0, 0, 9), 0);
        for (int marked = 0; marked < 2; marked++) {
            due("begin", x.begin(), 0);
            due("update", x.update(0, 0, 10), 0);
            due("update", x.update(5, 3, 11), 0);
            due("update", x.update(0, 0, 12), 0);
            due("commit", x.commit(), 0);
            x.torn(marked == 1, 1);
            due("none open", x.commit(), OPEN);
            due("all or nothing", x.read(0, 0), marked == 1 ? 12 : 9);
            due("all or nothing", x.read(5, 3), marked == 1 ? 11 : 0);
        }
    }

    private static void tornUndoesOnlyTheLastChange() {
        part("11 torn undoes one change");
        CardFiles x = verifiedCard();
        due("create", x.create(0, 4, false), 0);
        due("change", x.change(55), 0);
        due("update", x.update(0, 0, 1), 0);
        x.torn(false, 0);
        due("update undone", x.read(0, 0), 0);
        due("change stays", x.verify(55), 3);
        due("update", x.update(0, 0, 1), 0);
        due("change", x.change(66), 0);
        x.torn(false, 0);
        due("update stays", x.read(0, 0), 1);
        due("change undone", x.verify(55), 3);
        due("update", x.update(0, 0, 2), 0);
        due("begin", x.begin(), 0);
        due("commit of nothing", x.commit(), 0);
        x.torn(false, 0);
        due("an empty commit is the last change", x.read(0, 0), 2);
        due("update", x.update(0, 0, 3), 0);
        due("verify", x.verify(55), 3);
        due("change to the same", x.change(55), 0);
        x.torn(false, 0);
        due("a change to the same is the last change", x.read(0, 0), 3);
    }

    private static void tornLeavesWhatIsNoChange() {
        part("11 what is no last change");
        CardFiles x = verifiedCard();
        due("create", x.create(0, 4, false), 0);
        due("update", x.update(0, 0, 1), 0);
        due("refused update", x.update(0, 4, 1), BAD);
        due("refused create", x.create(0, 1, false), BAD);
        due("refused change", x.change(-1), BAD);
        due("refused commit", x.commit(), OPEN);
        due("refused abort", x.abort(), OPEN);
        due("read", x.read(0, 0), 1);
        due("size", x.size(0), 4);
        due("state", x.state(), 7);
        due("verify", x.verify(1234), 3);
        due("begin", x.begin(), 0);
        due("update in transaction", x.update(0, 1, 2), 0);
        due("abort", x.abort(), 0);
        due("begin", x.begin(), 0);
        due("update in transaction", x.update(0, 2, 3), 0);
        x.torn(false, 0);
        due("the update is undone", x.read(0, 0), 0);
        due("aborted", x.read(0, 1), 0);
        due("forgotten", x.read(0, 2), 0);
        due("the create stays", x.size(0), 4);
    }

    private static void tornIsAPowerCut() {
        part("11 torn as power");
        for (int marked = 0; marked < 2; marked++) {
            CardFiles x = verifiedCard();
            due("create", x.create(0, 4, true), 0);
            due("create", x.create(1, 4, false), 0);
            due("wrong", x.verify(9), 2);
            due("right", x.verify(1234), 3);
            x.power();
            due("verify", x.verify(1234), 3);
            due("begin", x.begin(), 0);
            due("update", x.update(0, 0, 7), 0);
            due("update", x.update(1, 0, 8), 0);
            x.torn(marked == 1, 3);
            due("not verified", x.state(), 3);
            due("guarded", x.read(0, 0), LOCKED);
            due("forgotten", x.read(1, 0), 0);
            due("none open", x.commit(), OPEN);
            due("verify", x.verify(1234), 3);
            due("forgotten", x.read(0, 0), 0);
        }
    }

    private static void tornTakesAnyPages() {
        part("11 torn pages");
        for (int pages : new int[] {LEAST, -5, -1, 0, 1, 2, 16, 17, 512, GREATEST}) {
            for (int marked = 0; marked < 2; marked++) {
                CardFiles x = cardWithFile(0, 16);
                due("begin", x.begin(), 0);
                for (int offset = 0; offset < 16; offset++) {
                    due("update", x.update(0, offset, 40 + offset), 0);
                }
                due("commit", x.commit(), 0);
                x.torn(marked == 1, pages);
                for (int offset = 0; offset < 16; offset++) {
                    due("pages " + pages, x.read(0, offset), marked == 1 ? 40 + offset : 0);
                }
            }
        }
    }

    private static void sizeAnswers() {
        part("12 size");
        CardFiles x = new CardFiles();
        for (int file : WRONG_FILES) {
            due("size " + file, x.size(file), 0);
        }
        due("create", x.create(0, 1, true), 0);
        due("create", x.create(5, 16, false), 0);
        due("guarded, not verified", x.size(0), 1);
        due("greatest", x.size(5), 16);
        due("not there", x.size(4), 0);
        for (int file : WRONG_FILES) {
            due("size " + file, x.size(file), 0);
        }
        due("begin", x.begin(), 0);
        due("in a transaction", x.size(5), 16);
        x.power();
        due("after power", x.size(5), 16);
        due("after power", x.size(0), 1);
    }

    private static void stateAnswers() {
        part("13 state");
        CardFiles x = new CardFiles();
        due("3", x.state(), 3);
        due("right", x.verify(1234), 3);
        due("3 and verified", x.state(), 7);
        due("wrong", x.verify(1), 2);
        due("2", x.state(), 2);
        due("wrong", x.verify(1), 1);
        due("1", x.state(), 1);
        due("right", x.verify(1234), 3);
        due("again 3 and verified", x.state(), 7);
        due("begin", x.begin(), 0);
        due("a transaction is no part of it", x.state(), 7);
        x.torn(true, 0);
        due("after torn", x.state(), 3);
        for (int left = 2; left >= 0; left--) {
            due("wrong", x.verify(1), left);
        }
        due("0", x.state(), 0);
    }
}
