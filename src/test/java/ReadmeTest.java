import java.io.IOException;
import java.nio.file.Files;
import java.nio.file.Path;
import java.util.Iterator;
import java.util.List;
import java.util.stream.Collectors;

/** The example of README.md: its calls, in its order, answer what its comments say. */
public final class ReadmeTest {
    private static final Checks CHECKS = new Checks();
    private static Iterator<String> example;

    public static void main(String[] args) throws IOException {
        example = callsOf(Files.readString(Path.of("README.md"))).iterator();
        CardFiles card = new CardFiles();
        due("card.create(0, 10, true);", card.create(0, 10, true), "0");
        due("card.read(0, 3);", card.read(0, 3), "LOCKED");
        due("card.verify(1234);", card.verify(1234), "3");
        due("card.update(0, 3, 77);", card.update(0, 3, 77), "0");
        due("card.begin();", card.begin(), "0");
        due("card.update(0, 3, 78);", card.update(0, 3, 78), "0");
        due("card.commit();", card.commit(), "0");
        card.torn(false, 0);
        stands("card.torn(false, 0);");
        due("card.state();", card.state(), "3");
        due("card.verify(1234);", card.verify(1234), "3");
        due("card.read(0, 3);", card.read(0, 3), "77");
        CHECKS.holds("no call is left in the example", !example.hasNext());
        CHECKS.end();
    }

    private static List<String> callsOf(String readme) {
        String fromExample = readme.substring(readme.indexOf("```java"));
        String block = fromExample.substring(0, fromExample.indexOf("```", 3));
        return block.lines().filter(line -> line.startsWith("card.")).collect(Collectors.toList());
    }

    private static void due(String call, int got, String want) {
        String comment = stands(call).replaceFirst(".*// ", "");
        CHECKS.holds(call + " has the comment " + want, comment.replaceFirst(":.*", "").equals(want));
        CHECKS.due(call, got, want.equals("LOCKED") ? CardFiles.LOCKED : Integer.parseInt(want));
    }

    private static String stands(String call) {
        String line = example.hasNext() ? example.next() : "";
        CHECKS.holds(call + " stands next in the example", line.startsWith(call));
        return line;
    }
}
