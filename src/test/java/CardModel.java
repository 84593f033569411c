import java.util.ArrayList;
import java.util.List;
import java.util.function.Consumer;

/**
 * The document told in another way than the program holds it: the lasting state
 * is a log of changes played from the start, and undoing one drops it from the log.
 */
final class CardModel {
    static final class Card {
        int code = 1234;
        final int[][] files = new int[6][];
        final boolean[] guarded = new boolean[6];
    }

    private final List<Consumer<Card>> log = new ArrayList<>();
    private List<Consumer<Card>> transaction = null;
    private boolean lastChangeKnown = false;
    private Card card = new Card();
    private int tries = 3;
    private boolean verified = false;

    int create(int file, int size, boolean guarded) {
        if (file < 0 || file > 5 || card.files[file] != null || size < 1 || size > 16) {
            return CardFiles.BAD;
        }
        if (transaction != null) {
            return CardFiles.OPEN;
        }
        return changed(c -> {
            c.files[file] = new int[size];
            c.guarded[file] = guarded;
        });
    }

    int update(int file, int offset, int value) {
        int refusal = refusal(file, offset);
        if (refusal != 0) {
            return refusal;
        }
        Consumer<Card> write = c -> c.files[file][offset] = value & 0xff;
        if (transaction == null) {
            return changed(write);
        }
        transaction.add(write);
        play();
        return 0;
    }

    int read(int file, int offset) {
        int refusal = refusal(file, offset);
        return refusal != 0 ? refusal : card.files[file][offset];
    }

    int begin() {
        if (transaction != null) {
            return CardFiles.OPEN;
        }
        transaction = new ArrayList<>();
        return 0;
    }

    int commit() {
        if (transaction == null) {
            return CardFiles.OPEN;
        }
        List<Consumer<Card>> writes = transaction;
        transaction = null;
        return changed(c -> writes.forEach(write -> write.accept(c)));
    }

    int abort() {
        if (transaction == null) {
            return CardFiles.OPEN;
        }
        transaction = null;
        play();
        return 0;
    }

    int verify(int code) {
        if (tries == 0) {
            return CardFiles.BLOCKED;
        }
        if (code == card.code) {
            tries = 3;
            verified = true;
        } else {
            tries--;
            verified = false;
        }
        return tries;
    }

    int change(int newCode) {
        if (newCode < 0 || newCode > 9999) {
            return CardFiles.BAD;
        }
        if (!verified) {
            return CardFiles.LOCKED;
        }
        if (transaction != null) {
            return CardFiles.OPEN;
        }
        return changed(c -> c.code = newCode);
    }

    void power() {
        transaction = null;
        verified = false;
        lastChangeKnown = false;
        play();
    }

    void torn(boolean marked) {
        if (!marked && lastChangeKnown) {
            log.remove(log.size() - 1);
        }
        power();
    }

    int size(int file) {
        return file < 0 || file > 5 || card.files[file] == null ? 0 : card.files[file].length;
    }

    int state() {
        return tries + (verified ? 4 : 0);
    }

    int code() {
        return card.code;
    }

    private int refusal(int file, int offset) {
        if (file < 0 || file > 5 || card.files[file] == null) {
            return CardFiles.BAD;
        }
        if (offset < 0 || offset >= card.files[file].length) {
            return CardFiles.BAD;
        }
        return card.guarded[file] && !verified ? CardFiles.LOCKED : 0;
    }

    private int changed(Consumer<Card> change) {
        log.add(change);
        lastChangeKnown = true;
        play();
        return 0;
    }

    private void play() {
        card = new Card();
        log.forEach(change -> change.accept(card));
        if (transaction != null) {
            transaction.forEach(write -> write.accept(card));
        }
    }
}
