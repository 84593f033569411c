import java.util.Random;

/** Long walks of drawn calls, the same ones every time, against the model. */
public final class WalksTest {
    private static final int WALKS = 4000;
    private static final int MOST_STEPS = 300;
    private static final int[] ODD = {Integer.MIN_VALUE, -1, 6, 16, 17, 255, 256, 9999, 10000, Integer.MAX_VALUE};

    private final Random draw;
    private final Pair pair;

    private WalksTest(Checks checks, int seed) {
        draw = new Random(seed);
        pair = new Pair(checks, "walk " + seed);
    }

    public static void main(String[] args) {
        Checks checks = new Checks();
        for (int seed = 0; seed < WALKS && !checks.failed(); seed++) {
            new WalksTest(checks, seed).walk();
        }
        checks.end();
    }

    private void walk() {
        int steps = draw.nextInt(MOST_STEPS + 1);
        for (int i = 0; i < steps; i++) {
            step();
        }
        pair.lookAtAll();
        pair.verifyRight();
        // An undone change must be as if it had never been, so look once more
        // when nothing is pending.
        pair.torn(draw.nextBoolean(), 0);
        pair.verifyRight();
        pair.lookAtAll();
    }

    private void step() {
        int kind = draw.nextInt(100);
        if (kind < 8) {
            pair.create(number(6), 1 + number(16), draw.nextBoolean());
        } else if (kind < 42) {
            pair.update(number(6), number(16), draw.nextInt());
        } else if (kind < 60) {
            pair.read(number(6), number(16));
        } else if (kind < 68) {
            pair.begin();
        } else if (kind < 74) {
            pair.commit();
        } else if (kind < 77) {
            pair.abort();
        } else if (kind < 85) {
            verify();
        } else if (kind < 90) {
            pair.change(number(10000));
        } else if (kind < 92) {
            pair.power();
        } else if (kind < 96) {
            pair.torn(draw.nextBoolean(), number(20));
        } else if (kind < 98) {
            pair.size(number(6));
        } else {
            pair.state();
        }
    }

    private void verify() {
        // Mostly right, or every walk would soon be blocked.
        if (draw.nextInt(8) == 0) {
            pair.verify(number(10000));
        } else {
            pair.verifyRight();
        }
    }

    private int number(int bound) {
        return draw.nextInt(25) == 0 ? ODD[draw.nextInt(ODD.length)] : draw.nextInt(bound);
    }
}
