import java.util.LinkedHashMap;
import java.util.Map;
import java.util.function.Consumer;
import java.util.function.ToIntFunction;

/**
 * "A refused call changes nothing": two cards are brought to the same state, one of
 * them is given a refused call, and from then on both must answer alike.
 */
public final class RefusedCallsTest {
    private static final Edges EDGES = new Edges();
    private static final Map<String, Consumer<CardFiles>> STATES = new LinkedHashMap<>();
    private static final Map<String, ToIntFunction<CardFiles>> CALLS = new LinkedHashMap<>();
    private static final Map<String, Integer> REFUSALS = new LinkedHashMap<>();

    public static void main(String[] args) {
        listStates();
        listCalls();
        STATES.forEach((state, prepare) ->
            EDGES.sentence("Terms: a refused call changes nothing, " + state, () -> refuseAll(prepare)));
        EDGES.sentence("Terms: the refusals that the document lists", RefusedCallsTest::allRefusalsMet);
        EDGES.end();
    }

    private static void listStates() {
        STATES.put("a new card", x -> { });
        STATES.put("after create", x -> makeFiles(x));
        STATES.put("after update", x -> {
            makeFiles(x);
            x.update(0, 1, 21);
        });
        STATES.put("verified", x -> {
            makeFiles(x);
            x.verify(1234);
        });
        STATES.put("after change", x -> {
            makeFiles(x);
            x.verify(1234);
            x.change(4321);
        });
        STATES.put("after commit", x -> {
            openWithUpdates(x);
            x.commit();
        });
        STATES.put("after abort", x -> {
            openWithUpdates(x);
            x.abort();
        });
        STATES.put("open and verified", x -> openWithUpdates(x));
        STATES.put("open and not verified", x -> {
            openWithUpdates(x);
            x.verify(-1);
        });
        STATES.put("open and empty", x -> {
            makeFiles(x);
            x.update(0, 1, 21);
            x.begin();
        });
        STATES.put("open and blocked", x -> {
            openWithUpdates(x);
            block(x);
        });
        STATES.put("blocked", x -> {
            makeFiles(x);
            block(x);
        });
        STATES.put("after power", x -> {
            openWithUpdates(x);
            x.power();
        });
        STATES.put("after torn", x -> {
            openWithUpdates(x);
            x.torn(false, 0);
        });
    }

    private static void makeFiles(CardFiles x) {
        x.create(0, 16, false);
        x.create(1, 3, true);
        x.create(2, 1, false);
    }

    private static void openWithUpdates(CardFiles x) {
        makeFiles(x);
        x.verify(1234);
        x.update(1, 2, 31);
        x.begin();
        x.update(0, 15, 32);
        x.update(1, 0, 33);
    }

    private static void block(CardFiles x) {
        for (int i = 0; i < 3; i++) {
            x.verify(-1);
        }
    }

    private static void listCalls() {
        for (int file : new int[] {Edges.LEAST, -1, 0, 3, 6, Edges.GREATEST}) {
            for (int size : new int[] {Edges.LEAST, 0, 1, 16, 17, Edges.GREATEST}) {
                CALLS.put("create " + file + " " + size, x -> x.create(file, size, false));
                CALLS.put("create guarded " + file + " " + size, x -> x.create(file, size, true));
            }
        }
        for (int file : new int[] {Edges.LEAST, -1, 0, 1, 2, 3, 5, 6, Edges.GREATEST}) {
            for (int offset : new int[] {Edges.LEAST, -1, 0, 1, 3, 15, 16, Edges.GREATEST}) {
                CALLS.put("update " + file + " " + offset, x -> x.update(file, offset, 99));
                CALLS.put("read " + file + " " + offset, x -> x.read(file, offset));
            }
        }
        for (int code : new int[] {Edges.LEAST, -1, 0, 1234, 9999, 10000, Edges.GREATEST}) {
            CALLS.put("change " + code, x -> x.change(code));
            CALLS.put("verify " + code, x -> x.verify(code));
        }
        CALLS.put("begin", CardFiles::begin);
        CALLS.put("commit", CardFiles::commit);
        CALLS.put("abort", CardFiles::abort);
    }

    private static void refuseAll(Consumer<CardFiles> prepare) {
        CALLS.forEach((name, call) -> {
            // An open transaction is committed, aborted or left to the power cut: a
            // fault in what is held for one of these may not show in the others.
            for (int way = 0; way < 3; way++) {
                CardFiles x = new CardFiles();
                prepare.accept(x);
                int answer = call.applyAsInt(x);
                if (answer < 0) {
                    REFUSALS.merge(name.split(" ")[0] + " " + answer, 1, Integer::sum);
                    CardFiles twin = new CardFiles();
                    prepare.accept(twin);
                    EDGES.same("after " + name, walkOn(x, way), walkOn(twin, way));
                }
            }
        });
    }

    private static int[] walkOn(CardFiles x, int way) {
        int[] first = Edges.look(x);
        int ended = 0;
        if (way == 0) {
            ended = x.commit();
        } else if (way == 1) {
            ended = x.abort();
        }
        x.torn(false, 0);
        // The code is one of these two in every state, and trying both tells which.
        int[] codes = {x.verify(4321), x.verify(1234)};
        int[] second = Edges.look(x);
        int[] third = {ended, codes[0], codes[1], x.begin(), x.begin(), x.commit()};
        return joined(first, second, third);
    }

    private static int[] joined(int[]... parts) {
        int length = 0;
        for (int[] part : parts) {
            length += part.length;
        }
        int[] all = new int[length];
        int place = 0;
        for (int[] part : parts) {
            System.arraycopy(part, 0, all, place, part.length);
            place += part.length;
        }
        return all;
    }

    private static void allRefusalsMet() {
        String[] listed = {"create -1", "create -2", "update -1", "update -3", "read -1", "read -3",
            "begin -2", "commit -2", "abort -2", "verify -4", "change -1", "change -3", "change -2"};
        for (String refusal : listed) {
            EDGES.due("met: " + refusal, REFUSALS.containsKey(refusal) ? 1 : 0, 1);
        }
        EDGES.due("no refusal beside them", REFUSALS.size(), listed.length);
    }
}
