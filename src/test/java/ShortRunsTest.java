/** Every run of a few calls from a small choice of them, against the model. */
public final class ShortRunsTest {
    private static final int CHOICES = 13;
    private static final int LENGTH = 5;

    public static void main(String[] args) {
        Checks checks = new Checks();
        int runs = 1;
        for (int i = 0; i < LENGTH; i++) {
            runs *= CHOICES;
        }
        for (int run = 0; run < runs && !checks.failed(); run++) {
            play(new Pair(checks, "short run " + run), run);
        }
        checks.end();
    }

    private static void play(Pair pair, int run) {
        pair.create(0, 2, false);
        int rest = run;
        for (int i = 0; i < LENGTH; i++) {
            call(pair, rest % CHOICES, i + 1);
            rest /= CHOICES;
        }
        pair.lookAtAll();
        pair.verifyRight();
        pair.lookAtAll();
        pair.torn(false, 0);
        pair.verifyRight();
        pair.lookAtAll();
    }

    private static void call(Pair pair, int choice, int value) {
        switch (choice) {
            case 0 -> pair.create(1, 2, true);
            case 1 -> pair.create(1, 1, false);
            case 2 -> pair.update(0, 1, value);
            case 3 -> pair.update(1, 0, value);
            case 4 -> pair.begin();
            case 5 -> pair.commit();
            case 6 -> pair.abort();
            case 7 -> pair.verifyRight();
            case 8 -> pair.verify(77);
            case 9 -> pair.change(value);
            case 10 -> pair.power();
            case 11 -> pair.torn(false, value);
            default -> pair.torn(true, value);
        }
    }
}
