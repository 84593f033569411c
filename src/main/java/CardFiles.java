/**
 * The files and the secret code of a small card that may lose its power at any
 * moment, in the middle of a change too.
 */
public final class CardFiles {
    public static final int BAD = -1;
    public static final int OPEN = -2;
    public static final int LOCKED = -3;
    public static final int BLOCKED = -4;

    private static final int DONE = 0;

    private static final int FILES = 6;
    private static final int MOST_BYTES = 16;
    private static final int GREATEST_CODE = 9999;
    private static final int FIRST_CODE = 1234;
    private static final int MOST_TRIES = 3;
    private static final int VERIFIED_MARK = 4;

    // An image holds all that a change can touch, so that one copy undoes or
    // keeps any change: the sizes (0: the file is not there), the guards
    // (1: guarded), the bytes file after file, and the code.
    private static final int SIZES = 0;
    private static final int GUARDS = SIZES + FILES;
    private static final int BYTES = GUARDS + FILES;
    private static final int CODE = BYTES + FILES * MOST_BYTES;
    private static final int IMAGE_LENGTH = CODE + 1;

    // What calls see. Equal to lasting while no transaction is open.
    private final int[] seen = new int[IMAGE_LENGTH];
    // What stays when the power is cut.
    private final int[] lasting = new int[IMAGE_LENGTH];
    // What was lasting before the last change. Equal to lasting while there is
    // no last change, so undoing it then does nothing.
    private final int[] before = new int[IMAGE_LENGTH];

    // The tries stand outside the images because no undoing touches them.
    private int tries = MOST_TRIES;
    private boolean verified = false;
    private boolean open = false;

    public CardFiles() {
        seen[CODE] = FIRST_CODE;
        lasting[CODE] = FIRST_CODE;
        before[CODE] = FIRST_CODE;
    }

    public int create(int file, int size, boolean guarded) {
        if (!isFileNumber(file) || seen[SIZES + file] != 0 || size < 1 || size > MOST_BYTES) {
            return BAD;
        }
        if (open) {
            return OPEN;
        }
        seen[SIZES + file] = size;
        seen[GUARDS + file] = guarded ? 1 : 0;
        // The bytes are 0 already: none is written before its file is there,
        // and undoing a create brings back the bytes from before it.
        makeLasting();
        return DONE;
    }

    public int update(int file, int offset, int value) {
        int refusal = refusalOfAccess(file, offset);
        if (refusal != DONE) {
            return refusal;
        }
        seen[placeOf(file, offset)] = value & 255;
        if (!open) {
            makeLasting();
        }
        return DONE;
    }

    public int read(int file, int offset) {
        int refusal = refusalOfAccess(file, offset);
        if (refusal != DONE) {
            return refusal;
        }
        return seen[placeOf(file, offset)];
    }

    public int begin() {
        if (open) {
            return OPEN;
        }
        open = true;
        return DONE;
    }

    public int commit() {
        if (!open) {
            return OPEN;
        }
        open = false;
        makeLasting();
        return DONE;
    }

    public int abort() {
        if (!open) {
            return OPEN;
        }
        forgetTransaction();
        return DONE;
    }

    public int verify(int code) {
        if (tries == 0) {
            return BLOCKED;
        }
        verified = code == seen[CODE];
        tries = verified ? MOST_TRIES : tries - 1;
        return tries;
    }

    public int change(int newCode) {
        if (newCode < 0 || newCode > GREATEST_CODE) {
            return BAD;
        }
        if (!verified) {
            return LOCKED;
        }
        if (open) {
            return OPEN;
        }
        seen[CODE] = newCode;
        makeLasting();
        return DONE;
    }

    public void power() {
        forgetTransaction();
        verified = false;
        copy(lasting, before);
    }

    public void torn(boolean marked, int pages) {
        if (!marked) {
            copy(before, lasting);
        }
        power();
    }

    public int size(int file) {
        return isFileNumber(file) ? seen[SIZES + file] : 0;
    }

    public int state() {
        return verified ? tries + VERIFIED_MARK : tries;
    }

    private static boolean isFileNumber(int file) {
        return file >= 0 && file < FILES;
    }

    private static int placeOf(int file, int offset) {
        return BYTES + file * MOST_BYTES + offset;
    }

    private int refusalOfAccess(int file, int offset) {
        // A file that is not there has size 0, which leaves no good offset.
        if (offset < 0 || offset >= size(file)) {
            return BAD;
        }
        if (seen[GUARDS + file] != 0 && !verified) {
            return LOCKED;
        }
        return DONE;
    }

    private void makeLasting() {
        copy(lasting, before);
        copy(seen, lasting);
    }

    private void forgetTransaction() {
        open = false;
        copy(lasting, seen);
    }

    private static void copy(int[] from, int[] to) {
        for (int i = 0; i < IMAGE_LENGTH; i++) {
            to[i] = from[i];
        }
    }
}
