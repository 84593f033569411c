/** A card and its model, given the same calls; tells every answer that differs. */
final class Pair {
    private static final int MOST_CALLS = 512;

    private final Checks checks;
    private final String name;
    private final CardFiles card = new CardFiles();
    private final CardModel model = new CardModel();
    private final StringBuilder calls = new StringBuilder();
    private int count = 0;

    Pair(Checks checks, String name) {
        this.checks = checks;
        this.name = name;
    }

    void create(int file, int size, boolean guarded) {
        note("create(" + file + ", " + size + ", " + guarded + ")");
        same(card.create(file, size, guarded), model.create(file, size, guarded));
    }

    void update(int file, int offset, int value) {
        note("update(" + file + ", " + offset + ", " + value + ")");
        same(card.update(file, offset, value), model.update(file, offset, value));
    }

    void read(int file, int offset) {
        note("read(" + file + ", " + offset + ")");
        same(card.read(file, offset), model.read(file, offset));
    }

    void begin() {
        note("begin()");
        same(card.begin(), model.begin());
    }

    void commit() {
        note("commit()");
        same(card.commit(), model.commit());
    }

    void abort() {
        note("abort()");
        same(card.abort(), model.abort());
    }

    void verify(int code) {
        note("verify(" + code + ")");
        same(card.verify(code), model.verify(code));
    }

    void verifyRight() {
        verify(model.code());
    }

    void change(int newCode) {
        note("change(" + newCode + ")");
        same(card.change(newCode), model.change(newCode));
    }

    void power() {
        note("power()");
        card.power();
        model.power();
    }

    void torn(boolean marked, int pages) {
        note("torn(" + marked + ", " + pages + ")");
        card.torn(marked, pages);
        model.torn(marked);
    }

    void size(int file) {
        note("size(" + file + ")");
        same(card.size(file), model.size(file));
    }

    void state() {
        note("state()");
        same(card.state(), model.state());
    }

    /** Asks for all that can be seen, at most 104 calls. */
    void lookAtAll() {
        state();
        for (int file = 0; file < 6; file++) {
            size(file);
            int asked = Math.max(1, model.size(file));
            for (int offset = 0; offset < asked; offset++) {
                read(file, offset);
            }
        }
    }

    private void note(String call) {
        count++;
        if (count > MOST_CALLS) {
            throw new IllegalStateException("a test calls more often than is promised");
        }
        calls.append(call).append("; ");
    }

    private void same(int got, int want) {
        // The text is only made for a wrong answer: there are millions of checks.
        checks.due(got == want ? "" : name + ": " + calls, got, want);
    }
}
