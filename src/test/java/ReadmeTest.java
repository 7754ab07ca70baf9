import java.io.IOException;
import java.nio.file.Files;
import java.nio.file.Path;
import java.util.ArrayList;
import java.util.List;
import java.util.stream.Stream;

/** What README.md tells of the class is so: its examples answer as they say, and it names every test. */
public final class ReadmeTest extends Answers {
    private static final Path README = Path.of("README.md");
    private static final Path TESTS = Path.of("src/test/java");

    private static final List<String> left = new ArrayList<>();

    public static void main(String[] args) throws IOException {
        about("README.md");
        String readme = Files.readString(README);
        for (String line : readme.split("\n")) {
            if (line.contains(";") && line.contains(" // ")) {
                left.add(line.replaceAll("\\s+", " "));
            }
        }
        NoteGate gate = new NoteGate();
        notes(gate);
        script(gate);
        for (String line : left) {
            wrong("no test has this line: " + line);
        }
        namesEveryTest(readme);
        end();
    }

    private static void notes(NoteGate gate) {
        int house = gate.house(0, false, 0);
        says("int house = gate.house(0, false, 0);", house, 0);
        int other = gate.house(3, true, 0);
        says("int other = gate.house(3, true, 0);", other, 1);
        says("gate.tap(1);", gate.tap(1), 0);
        says("gate.prove(0);", gate.prove(0));
        says("gate.ask(0, house, 3);", gate.ask(0, house, 3), 1);
        says("gate.deliver(0);", gate.deliver(0), 1);
        says("gate.judge(0, house, 0, 0, 3);", gate.judge(0, house, 0, 0, 3), 1);
        says("gate.found(0);", gate.found(0), 100);
        says("gate.judge(0, other, 0, 0, 2);", gate.judge(0, other, 0, 0, 2), NONE);
        says("gate.checks(254);", gate.checks(254), ALL_CHECKS);
        says("gate.judge(0, other, 0, 0, 2);", gate.judge(0, other, 0, 0, 2), 1);
        says("gate.stops(0, other, 0, 0, 2);", gate.stops(0, other, 0, 0, 2), 1);
        says("gate.deliver(0);", gate.deliver(0), 1);
        says("gate.show(0, house, 0, 1);", gate.show(0, house, 0, 1));
        says("gate.deliver(0);", gate.deliver(0), 0);
        says("gate.longest(0, house, 0);", gate.longest(0, house, 0), 21);
    }

    private static void script(NoteGate gate) {
        says("gate.row(0, 2, 4);", gate.row(0, 2, 4), 0);
        says("gate.write(0, 0, 6);", gate.write(0, 0, 6), 0);
        says("gate.write(0, 1, 2);", gate.write(0, 1, 2), 0);
        says("gate.write(0, 2, 5);", gate.write(0, 2, 5), 0);
        says("gate.write(0, 3, 3);", gate.write(0, 3, 3), 0);
        says("gate.script(0);", gate.script(0), 2);
        says("gate.why();", gate.why(), 0);
        due("the time behind the script", gate.count(0), 3);
        due("when person 2 was proved", gate.browser(2, 0), 0);
    }

    private static void says(String call, boolean got) {
        yes(call, got);
        takeLine(call, "true");
    }

    private static void says(String call, long got, long want) {
        due(call, got, want);
        takeLine(call, Long.toString(want));
    }

    /** The next line of the examples must be this one: they are one run, so their order counts. */
    private static void takeLine(String call, String answer) {
        String want = call + " // " + answer + ": ";
        if (left.isEmpty() || !left.get(0).startsWith(want)) {
            wrong("here stands " + (left.isEmpty() ? "nothing" : left.get(0)) + ", due is " + want);
        }
        if (!left.isEmpty()) {
            left.remove(0);
        }
    }

    private static void namesEveryTest(String readme) throws IOException {
        try (Stream<Path> files = Files.list(TESTS)) {
            for (Path file : files.sorted().toList()) {
                String name = file.getFileName().toString().replace(".java", "");
                yes("the name of " + name, readme.contains("`" + name + "`"));
            }
        }
    }
}
