/** Runs one test for each sentence of the document that names a boundary case. */
final class Edges {
    static final int BAD = -1;
    static final int OPEN = -2;
    static final int LOCKED = -3;
    static final int BLOCKED = -4;

    static final int LEAST = Integer.MIN_VALUE;
    static final int GREATEST = Integer.MAX_VALUE;
    // The last two are file numbers again if only their low 8 or 16 bits are looked at.
    static final int[] WRONG_FILES = {LEAST, LEAST + 1, -6, -1, 6, 7, GREATEST, 256, 65536 + 5};
    static final int[] WRONG_SIZES = {LEAST, LEAST + 1, -16, -1, 0, 17, 18, GREATEST, 256 + 1, 65536 + 16};
    static final int[] WRONG_CODES = {LEAST, LEAST + 1, -9999, -1, 10000, 10001, GREATEST, 65536, 65536 + 1234};

    private final Checks checks = new Checks();
    private String sentence = "";
    private int sentences = 0;

    void sentence(String words, Runnable test) {
        sentence = words;
        sentences++;
        int before = checks.made();
        try {
            test.run();
        } catch (RuntimeException e) {
            // A call that throws breaks its own sentence, not the tests of the others.
            checks.holds(words + ": no call throws, but there was " + e, false);
        }
        checks.holds(words + ": its test checks something", checks.made() > before);
    }

    void due(String call, int got, int want) {
        checks.due(sentence + ": " + call, got, want);
    }

    void same(String what, int[] got, int[] want) {
        checks.due(sentence + ": " + what + ", lengths", got.length, want.length);
        for (int i = 0; i < Math.min(got.length, want.length); i++) {
            checks.due(sentence + ": " + what + ", at " + i, got[i], want[i]);
        }
    }

    void end() {
        System.out.println(sentences + " sentences");
        checks.end();
    }

    CardFiles cardWith(int file, int size, boolean guarded) {
        CardFiles x = new CardFiles();
        due("create(" + file + ", " + size + ", " + guarded + ")", x.create(file, size, guarded), 0);
        return x;
    }

    CardFiles verifiedCard() {
        CardFiles x = new CardFiles();
        due("verify(1234)", x.verify(1234), 3);
        return x;
    }

    CardFiles blockedCard() {
        CardFiles x = new CardFiles();
        block(x);
        return x;
    }

    void block(CardFiles x) {
        due("wrong code, first time", x.verify(-1), 2);
        due("wrong code, second time", x.verify(-1), 1);
        due("wrong code, third time", x.verify(-1), 0);
    }

    /** Six files of 16 bytes, none guarded: no room for more. */
    CardFiles fullCard() {
        return fullCardBut(-1);
    }

    CardFiles fullCardBut(int missing) {
        CardFiles x = new CardFiles();
        for (int file = 0; file < 6; file++) {
            if (file != missing) {
                due("create " + file, x.create(file, 16, false), 0);
            }
        }
        return x;
    }

    /** A card on which everything that can be is set: a wrong index is sure to find something. */
    CardFiles busyCard() {
        CardFiles x = verifiedCard();
        for (int file = 0; file < 6; file++) {
            due("create guarded " + file, x.create(file, 16, true), 0);
        }
        fill(x, 1);
        return x;
    }

    /** Sets all 96 bytes of a full card, each to another value. */
    void fill(CardFiles x, int first) {
        for (int place = 0; place < 96; place++) {
            due("update of byte " + place, x.update(place / 16, place % 16, first + place), 0);
        }
    }

    void filled(String when, CardFiles x, int first) {
        for (int place = 0; place < 96; place++) {
            due(when + ", byte " + place, x.read(place / 16, place % 16), first + place);
        }
    }

    void allZero(String when, CardFiles x) {
        for (int place = 0; place < 96; place++) {
            due(when + ", byte " + place, x.read(place / 16, place % 16), 0);
        }
    }

    /** All that calls without a lasting effect tell: 103 calls. */
    static int[] look(CardFiles x) {
        int[] seen = new int[103];
        seen[0] = x.state();
        for (int file = 0; file < 6; file++) {
            seen[1 + file] = x.size(file);
            for (int offset = 0; offset < 16; offset++) {
                seen[7 + file * 16 + offset] = x.read(file, offset);
            }
        }
        return seen;
    }
}
