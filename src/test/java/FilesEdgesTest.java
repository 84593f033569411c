/** The boundary cases of the promises on files: 2 create, 3 update, 4 read, 12 size. */
public final class FilesEdgesTest {
    private static final int BAD = Edges.BAD;
    private static final int OPEN = Edges.OPEN;
    private static final int LOCKED = Edges.LOCKED;
    private static final Edges EDGES = new Edges();

    public static void main(String[] args) {
        EDGES.sentence("Terms: files 0 to 5 are there or not", FilesEdgesTest::eachFileAlone);
        EDGES.sentence("Terms: none at the start", FilesEdgesTest::noneAtTheStart);
        EDGES.sentence("Terms: a size from 1 to 16, that many bytes", FilesEdgesTest::eachSize);
        EDGES.sentence("Terms: bytes (0 to 255)", FilesEdgesTest::eachByteValue);
        EDGES.sentence("Terms: is guarded or not", FilesEdgesTest::guardedOrNot);

        EDGES.sentence("2: makes a file with all bytes 0", FilesEdgesTest::createdBytesAreZero);
        EDGES.sentence("2: all bytes 0, after an undone create", FilesEdgesTest::createdAnewBytesAreZero);
        EDGES.sentence("2: BAD if file is not from 0 to 5", FilesEdgesTest::createWrongFile);
        EDGES.sentence("2: BAD if file is there", FilesEdgesTest::createFileThatIsThere);
        EDGES.sentence("2: BAD if size is not from 1 to 16", FilesEdgesTest::createWrongSize);
        EDGES.sentence("2: OPEN if a transaction is open", FilesEdgesTest::createWhileOpen);
        EDGES.sentence("2: BAD before OPEN", FilesEdgesTest::createBadBeforeOpen);
        EDGES.sentence("2: otherwise answers 0", FilesEdgesTest::createOtherwise);

        EDGES.sentence("3: becomes value & 255", FilesEdgesTest::updateWrapsAround);
        EDGES.sentence("3: the byte at the offset, no other", FilesEdgesTest::updateOneByteAlone);
        EDGES.sentence("3: BAD if the file is not there", FilesEdgesTest::updateFileNotThere);
        EDGES.sentence("3: BAD if offset is not from 0 to its size - 1", FilesEdgesTest::updateWrongOffset);
        EDGES.sentence("3: LOCKED if it is guarded and not verified", FilesEdgesTest::updateLocked);
        EDGES.sentence("3: BAD before LOCKED", FilesEdgesTest::updateBadBeforeLocked);
        EDGES.sentence("3: otherwise answers 0", FilesEdgesTest::updateOtherwise);

        EDGES.sentence("4: with the updates of an open transaction", FilesEdgesTest::readInTransaction);
        EDGES.sentence("4: BAD if the file is not there", FilesEdgesTest::readFileNotThere);
        EDGES.sentence("4: BAD if offset is not from 0 to its size - 1", FilesEdgesTest::readWrongOffset);
        EDGES.sentence("4: LOCKED if it is guarded and not verified", FilesEdgesTest::readLocked);
        EDGES.sentence("4: BAD before LOCKED", FilesEdgesTest::readBadBeforeLocked);

        EDGES.sentence("12: the size of the file", FilesEdgesTest::sizeOfFile);
        EDGES.sentence("12: 0 if it is not there", FilesEdgesTest::sizeOfNoFile);
        EDGES.sentence("12: 0 if file is not from 0 to 5", FilesEdgesTest::sizeOfWrongFile);
        EDGES.end();
    }

    private static void due(String call, int got, int want) {
        EDGES.due(call, got, want);
    }

    private static void eachFileAlone() {
        for (int file = 0; file < 6; file++) {
            CardFiles x = EDGES.cardWith(file, 3, false);
            for (int other = 0; other < 6; other++) {
                due("size " + other + " with " + file, x.size(other), other == file ? 3 : 0);
                due("read " + other + " with " + file, x.read(other, 2), other == file ? 0 : BAD);
            }
        }
    }

    private static void noneAtTheStart() {
        CardFiles x = new CardFiles();
        for (int file = 0; file < 6; file++) {
            due("size " + file, x.size(file), 0);
            due("read " + file, x.read(file, 0), BAD);
            due("update " + file, x.update(file, 0, 1), BAD);
        }
    }

    private static void eachSize() {
        for (int file = 0; file < 6; file++) {
            for (int size = 1; size <= 16; size++) {
                CardFiles x = EDGES.cardWith(file, size, false);
                due("size", x.size(file), size);
                for (int offset = 0; offset < size; offset++) {
                    due("update " + offset + " of " + size, x.update(file, offset, 100 + offset), 0);
                }
                for (int offset = 0; offset < size; offset++) {
                    due("read " + offset + " of " + size, x.read(file, offset), 100 + offset);
                }
                due("read after the last of " + size, x.read(file, size), BAD);
            }
        }
    }

    private static void eachByteValue() {
        for (int value = 0; value <= 255; value++) {
            CardFiles x = EDGES.cardWith(3, 16, false);
            due("update first", x.update(3, 0, value), 0);
            due("update last", x.update(3, 15, 255 - value), 0);
            due("first " + value, x.read(3, 0), value);
            due("last " + (255 - value), x.read(3, 15), 255 - value);
            x.power();
            due("first after power " + value, x.read(3, 0), value);
            due("last after power " + (255 - value), x.read(3, 15), 255 - value);
        }
    }

    private static void guardedOrNot() {
        // Bit f of the mask says whether file f is guarded: every mix of guards.
        for (int mask = 0; mask < 64; mask++) {
            CardFiles x = new CardFiles();
            for (int file = 0; file < 6; file++) {
                due("create", x.create(file, 1, (mask >> file & 1) == 1), 0);
            }
            for (int file = 0; file < 6; file++) {
                due("file " + file + " of guards " + mask, x.read(file, 0), (mask >> file & 1) == 1 ? LOCKED : 0);
            }
        }
    }

    private static void createdBytesAreZero() {
        for (int size = 1; size <= 16; size++) {
            CardFiles x = EDGES.fullCardBut(5);
            due("create", x.create(5, size, false), 0);
            for (int offset = 0; offset < size; offset++) {
                due("byte " + offset + " of " + size, x.read(5, offset), 0);
            }
        }
    }

    private static void createdAnewBytesAreZero() {
        for (int file = 0; file < 6; file++) {
            CardFiles x = EDGES.cardWith(file, 16, false);
            due("begin", x.begin(), 0);
            for (int offset = 0; offset < 16; offset++) {
                due("update", x.update(file, offset, 255), 0);
            }
            x.torn(false, 0);
            due("create anew", x.create(file, 16, false), 0);
            for (int offset = 0; offset < 16; offset++) {
                due("byte " + offset, x.read(file, offset), 0);
            }
        }
    }

    private static void createWrongFile() {
        for (int file : Edges.WRONG_FILES) {
            for (int size : new int[] {1, 16}) {
                CardFiles x = new CardFiles();
                due("create " + file, x.create(file, size, false), BAD);
                due("create guarded " + file, x.create(file, size, true), BAD);
                for (int other = 0; other < 6; other++) {
                    due("none made, " + other, x.size(other), 0);
                }
            }
        }
        due("the least file", new CardFiles().create(0, 1, false), 0);
        due("the greatest file", new CardFiles().create(5, 1, false), 0);
    }

    private static void createFileThatIsThere() {
        for (int file = 0; file < 6; file++) {
            CardFiles x = EDGES.cardWith(file, 4, false);
            due("the same again", x.create(file, 4, false), BAD);
            due("other size and guard", x.create(file, 16, true), BAD);
            due("size as it was", x.size(file), 4);
            due("not guarded, as it was", x.read(file, 0), 0);
            x.power();
            due("after power", x.create(file, 4, false), BAD);
            x.torn(true, 0);
            due("after torn, wholly", x.create(file, 4, false), BAD);
            x.torn(false, 0);
            due("after torn with no last change", x.create(file, 4, false), BAD);
        }
        CardFiles full = EDGES.fullCard();
        for (int file = 0; file < 6; file++) {
            due("full card, " + file, full.create(file, 1, false), BAD);
        }
        CardFiles undone = EDGES.cardWith(2, 4, false);
        undone.torn(false, 0);
        due("not there after its create is undone", undone.create(2, 4, false), 0);
    }

    private static void createWrongSize() {
        for (int size : Edges.WRONG_SIZES) {
            for (int file = 0; file < 6; file++) {
                CardFiles x = new CardFiles();
                due("create with size " + size, x.create(file, size, false), BAD);
                due("create guarded with size " + size, x.create(file, size, true), BAD);
                due("none made", x.size(file), 0);
            }
        }
        due("the least size", new CardFiles().create(0, 1, false), 0);
        due("the greatest size", new CardFiles().create(0, 16, false), 0);
    }

    private static void createWhileOpen() {
        CardFiles x = new CardFiles();
        due("begin", x.begin(), 0);
        for (int file = 0; file < 6; file++) {
            due("open", x.create(file, 1, false), OPEN);
            due("open, guarded", x.create(file, 16, true), OPEN);
            due("none made", x.size(file), 0);
        }
        due("commit", x.commit(), 0);
        due("none made by the commit", x.size(0), 0);
        due("after commit", x.create(0, 1, false), 0);
        due("begin", x.begin(), 0);
        due("open again", x.create(1, 1, false), OPEN);
        due("abort", x.abort(), 0);
        due("after abort", x.create(1, 1, false), 0);
        due("begin", x.begin(), 0);
        x.power();
        due("after power", x.create(2, 1, false), 0);
        due("begin", x.begin(), 0);
        x.torn(true, 0);
        due("after torn", x.create(3, 1, false), 0);
        due("begin", x.begin(), 0);
        x.torn(false, 0);
        due("after torn and undone", x.create(3, 1, false), 0);
    }

    private static void createBadBeforeOpen() {
        CardFiles x = EDGES.cardWith(0, 4, false);
        due("begin", x.begin(), 0);
        for (int file : Edges.WRONG_FILES) {
            due("file " + file + " and open", x.create(file, 1, false), BAD);
        }
        due("there and open", x.create(0, 4, false), BAD);
        for (int size : Edges.WRONG_SIZES) {
            due("size " + size + " and open", x.create(1, size, false), BAD);
        }
        due("open alone", x.create(1, 1, false), OPEN);
    }

    private static void createOtherwise() {
        due("guarded, not verified", new CardFiles().create(0, 16, true), 0);
        due("guarded, verified", EDGES.verifiedCard().create(0, 16, true), 0);
        due("blocked", EDGES.blockedCard().create(5, 1, false), 0);
        due("guarded, blocked", EDGES.blockedCard().create(5, 1, true), 0);
        CardFiles x = EDGES.fullCardBut(3);
        due("the last file of six", x.create(3, 16, true), 0);
    }

    private static void updateWrapsAround() {
        CardFiles x = EDGES.cardWith(1, 2, false);
        int[] values = {0, 255, 256, 257, 511, 512, -1, -2, -255, -256, -257, 65535, 65536,
            Edges.LEAST, Edges.LEAST + 1, Edges.GREATEST, Edges.GREATEST - 1};
        int[] bytes = {0, 255, 0, 1, 255, 0, 255, 254, 1, 0, 255, 255, 0, 0, 1, 255, 254};
        for (int i = 0; i < values.length; i++) {
            due("update to " + values[i], x.update(1, 1, values[i]), 0);
            due("byte of " + values[i], x.read(1, 1), bytes[i]);
        }
        due("begin", x.begin(), 0);
        for (int i = 0; i < values.length; i++) {
            due("update in transaction to " + values[i], x.update(1, 0, values[i]), 0);
            due("byte in transaction of " + values[i], x.read(1, 0), bytes[i]);
        }
        due("commit", x.commit(), 0);
        due("byte committed", x.read(1, 0), 254);
    }

    private static void updateOneByteAlone() {
        for (int place = 0; place < 96; place++) {
            CardFiles x = EDGES.fullCard();
            due("update of byte " + place, x.update(place / 16, place % 16, 255), 0);
            for (int other = 0; other < 96; other++) {
                due("byte " + other + " with " + place, x.read(other / 16, other % 16), other == place ? 255 : 0);
            }
        }
    }

    private static void updateFileNotThere() {
        CardFiles x = EDGES.fullCardBut(4);
        due("not made", x.update(4, 0, 1), BAD);
        for (int file : Edges.WRONG_FILES) {
            due("file " + file, x.update(file, 0, 1), BAD);
        }
        due("begin", x.begin(), 0);
        due("not made, open", x.update(4, 0, 1), BAD);
        due("commit", x.commit(), 0);
        due("create", x.create(4, 1, false), 0);
        due("no byte of it was written", x.read(4, 0), 0);
        x.torn(false, 0);
        due("undone", x.update(4, 0, 1), BAD);
        due("verify", x.verify(1234), 3);
        due("not made, verified", x.update(4, 0, 1), BAD);
        CardFiles busy = EDGES.busyCard();
        for (int file : Edges.WRONG_FILES) {
            due("all there, file " + file, busy.update(file, 0, 1), BAD);
            due("all there, last of file " + file, busy.update(file, 15, 1), BAD);
        }
        EDGES.filled("no byte was written", busy, 1);
    }

    private static void updateWrongOffset() {
        for (int size = 1; size <= 16; size++) {
            CardFiles x = EDGES.cardWith(2, size, false);
            int[] wrong = {Edges.LEAST, -16, -1, size, size + 1, 16, 17, 256, 65536, Edges.GREATEST};
            for (int offset : wrong) {
                due("offset " + offset + " of " + size, x.update(2, offset, 9), BAD);
            }
            for (int offset = 0; offset < size; offset++) {
                due("none was written, " + offset, x.read(2, offset), 0);
            }
            due("the least offset", x.update(2, 0, 9), 0);
            due("the greatest offset", x.update(2, size - 1, 9), 0);
        }
    }

    private static void updateLocked() {
        CardFiles x = EDGES.cardWith(0, 2, true);
        due("never verified", x.update(0, 0, 1), LOCKED);
        due("begin", x.begin(), 0);
        due("never verified, open", x.update(0, 1, 1), LOCKED);
        due("abort", x.abort(), 0);
        due("verify", x.verify(1234), 3);
        due("none was written", x.read(0, 0), 0);
        due("verified", x.update(0, 0, 1), 0);
        x.power();
        due("after power", x.update(0, 0, 2), LOCKED);
        due("verify", x.verify(1234), 3);
        x.torn(true, 0);
        due("after torn", x.update(0, 0, 2), LOCKED);
        due("verify", x.verify(1234), 3);
        due("begin", x.begin(), 0);
        due("verified, open", x.update(0, 1, 3), 0);
        due("wrong code", x.verify(0), 2);
        due("after a wrong code, open", x.update(0, 1, 4), LOCKED);
        due("commit", x.commit(), 0);
        due("after a wrong code", x.update(0, 1, 4), LOCKED);
        due("verify", x.verify(1234), 3);
        due("written while verified", x.read(0, 1), 3);
        EDGES.block(x);
        due("blocked", x.update(0, 0, 1), LOCKED);
    }

    private static void updateBadBeforeLocked() {
        for (int size = 1; size <= 16; size++) {
            CardFiles x = EDGES.cardWith(2, size, true);
            due("offset -1 and locked", x.update(2, -1, 1), BAD);
            due("offset " + size + " and locked", x.update(2, size, 1), BAD);
            due("least offset and locked", x.update(2, Edges.LEAST, 1), BAD);
            due("greatest offset and locked", x.update(2, Edges.GREATEST, 1), BAD);
            due("locked alone, first", x.update(2, 0, 1), LOCKED);
            due("locked alone, last", x.update(2, size - 1, 1), LOCKED);
            x.torn(false, 0);
            due("a guarded file that is undone", x.update(2, 0, 1), BAD);
        }
    }

    private static void updateOtherwise() {
        CardFiles blocked = EDGES.blockedCard();
        due("create", blocked.create(0, 1, false), 0);
        due("not guarded, blocked", blocked.update(0, 0, 255), 0);
        due("read, blocked", blocked.read(0, 0), 255);
        CardFiles x = EDGES.verifiedCard();
        due("create", x.create(5, 16, true), 0);
        due("guarded, verified", x.update(5, 15, 7), 0);
        due("the same value again", x.update(5, 15, 7), 0);
        due("read", x.read(5, 15), 7);
    }

    private static void readInTransaction() {
        CardFiles x = EDGES.fullCard();
        due("update before", x.update(0, 0, 10), 0);
        due("begin", x.begin(), 0);
        due("no update yet", x.read(0, 0), 10);
        due("update first", x.update(0, 0, 20), 0);
        due("update last", x.update(5, 15, 30), 0);
        due("first", x.read(0, 0), 20);
        due("last", x.read(5, 15), 30);
        due("none at this one", x.read(0, 1), 0);
        due("update first again", x.update(0, 0, 21), 0);
        due("the newest", x.read(0, 0), 21);
        due("update first to what it was", x.update(0, 0, 10), 0);
        due("what it was", x.read(0, 0), 10);
        EDGES.fill(x, 100);
        EDGES.filled("every byte updated", x, 100);
    }

    private static void readFileNotThere() {
        CardFiles x = EDGES.fullCardBut(4);
        due("not made", x.read(4, 0), BAD);
        for (int file : Edges.WRONG_FILES) {
            due("file " + file, x.read(file, 0), BAD);
        }
        due("create", x.create(4, 1, false), 0);
        due("made", x.read(4, 0), 0);
        x.torn(false, 0);
        due("undone", x.read(4, 0), BAD);
        due("verify", x.verify(1234), 3);
        due("not made, verified", x.read(4, 0), BAD);
        due("begin", x.begin(), 0);
        due("not made, open", x.read(4, 0), BAD);
        CardFiles busy = EDGES.busyCard();
        for (int file : Edges.WRONG_FILES) {
            due("all there, file " + file, busy.read(file, 0), BAD);
            due("all there, last of file " + file, busy.read(file, 15), BAD);
        }
    }

    private static void readWrongOffset() {
        for (int size = 1; size <= 16; size++) {
            CardFiles x = EDGES.cardWith(2, size, false);
            int[] wrong = {Edges.LEAST, -16, -1, size, size + 1, 16, 17, 256, 65536, Edges.GREATEST};
            for (int offset : wrong) {
                due("offset " + offset + " of " + size, x.read(2, offset), BAD);
            }
            due("the least offset", x.read(2, 0), 0);
            due("the greatest offset", x.read(2, size - 1), 0);
        }
    }

    private static void readLocked() {
        CardFiles x = EDGES.cardWith(0, 2, true);
        due("never verified", x.read(0, 0), LOCKED);
        due("verify", x.verify(1234), 3);
        due("verified", x.read(0, 0), 0);
        due("update", x.update(0, 1, 5), 0);
        x.power();
        due("after power", x.read(0, 1), LOCKED);
        due("verify", x.verify(1234), 3);
        due("verified again", x.read(0, 1), 5);
        x.torn(false, 0);
        due("after torn", x.read(0, 1), LOCKED);
        due("verify", x.verify(1234), 3);
        due("begin", x.begin(), 0);
        due("update", x.update(0, 0, 6), 0);
        due("wrong code", x.verify(0), 2);
        due("after a wrong code, open", x.read(0, 0), LOCKED);
        due("verify", x.verify(1234), 3);
        due("verified, open", x.read(0, 0), 6);
        EDGES.block(x);
        due("blocked", x.read(0, 0), LOCKED);
    }

    private static void readBadBeforeLocked() {
        for (int size = 1; size <= 16; size++) {
            CardFiles x = EDGES.cardWith(2, size, true);
            due("offset -1 and locked", x.read(2, -1), BAD);
            due("offset " + size + " and locked", x.read(2, size), BAD);
            due("least offset and locked", x.read(2, Edges.LEAST), BAD);
            due("greatest offset and locked", x.read(2, Edges.GREATEST), BAD);
            due("locked alone, first", x.read(2, 0), LOCKED);
            due("locked alone, last", x.read(2, size - 1), LOCKED);
            x.torn(false, 0);
            due("a guarded file that is undone", x.read(2, 0), BAD);
        }
    }

    private static void sizeOfFile() {
        CardFiles x = EDGES.cardWith(0, 1, true);
        due("create", x.create(5, 16, false), 0);
        due("the least, guarded and not verified", x.size(0), 1);
        due("the greatest", x.size(5), 16);
        EDGES.block(x);
        due("guarded and blocked", x.size(0), 1);
        due("begin", x.begin(), 0);
        due("in a transaction", x.size(5), 16);
        x.power();
        due("after power", x.size(5), 16);
        x.torn(false, 0);
        due("after torn with no last change", x.size(0), 1);
    }

    private static void sizeOfNoFile() {
        for (int file = 0; file < 6; file++) {
            CardFiles x = EDGES.fullCardBut(file);
            due("not made " + file, x.size(file), 0);
            due("create " + file, x.create(file, 16, false), 0);
            x.torn(false, 0);
            due("undone " + file, x.size(file), 0);
            due("refused create " + file, x.create(file, 17, false), BAD);
            due("refused " + file, x.size(file), 0);
        }
    }

    private static void sizeOfWrongFile() {
        CardFiles none = new CardFiles();
        CardFiles busy = EDGES.busyCard();
        for (int file : Edges.WRONG_FILES) {
            due("none there, " + file, none.size(file), 0);
            due("all there, " + file, busy.size(file), 0);
        }
    }
}
