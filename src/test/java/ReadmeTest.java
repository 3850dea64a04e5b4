import java.io.IOException;
import java.nio.file.Files;
import java.nio.file.Path;
import java.util.ArrayList;
import java.util.List;

/** The example of README.md: its rows are the calls below, in this order, with these answers. */
public final class ReadmeTest {
    private static final List<String> told = new ArrayList<>();
    private static final List<String> made = new ArrayList<>();

    public static void main(String[] args) throws IOException {
        for (String line : Files.readAllLines(Path.of("README.md"))) {
            if (line.startsWith("x.")) {
                told.add(callAndAnswer(line));
            }
        }
        example();
        for (int row = 0; row < Math.max(told.size(), made.size()); row++) {
            String got = row < made.size() ? made.get(row) : "no call";
            String want = row < told.size() ? told.get(row) : "no row";
            Due.is("README.md tells '" + want + "', the class '" + got + "': equal", got.equals(want), true);
        }
        Due.end();
    }

    /** The row without what explains the answer. */
    private static String callAndAnswer(String line) {
        return line.replaceAll(";\\s+// ", " is ").replaceAll(": .*", "");
    }

    private static void example() {
        MachineTwins x = new MachineTwins();
        row("x.transition(0, 1, 3 + 16 * 5)", x.transition(0, 1, 3 + 16 * 5));
        row("x.alike(0, 1)", x.alike(0, 1));
        row("x.distance(0, 1)", x.distance(0, 1));
        row("x.teller(0, 1, 0)", x.teller(0, 1, 0));
        row("x.teller(0, 1, 1)", x.teller(0, 1, 1));
        row("x.kind(2)", x.kind(2));
        row("x.kinds()", x.kinds());
        row("x.reachableKinds(0)", x.reachableKinds(0));
        row("x.depth()", x.depth());
        row("x.run(0, 1 + 4 * 2, 2)", x.run(0, 1 + 4 * 2, 2));
        row("x.exchange(0, 1, 1)", x.exchange(0, 1, 1));
        row("x.alike(0, 2)", x.alike(0, 2));
        row("x.kind(16)", x.kind(16));
    }

    private static void row(String call, boolean answer) {
        made.add(call + " is " + answer);
    }

    private static void row(String call, int answer) {
        String name = answer == -1 ? "BAD_STATE" : answer == -4 ? "NONE" : String.valueOf(answer);
        made.add(call + " is " + name);
    }
}
