import java.io.IOException;
import java.io.UncheckedIOException;
import java.nio.file.Files;
import java.nio.file.Path;
import java.util.ArrayList;
import java.util.LinkedHashMap;
import java.util.List;
import java.util.Map;

/** The document whose words tests quote: what is quoted must stand there, and no part of a promise may stand unquoted. */
final class Document {
    private static final Path PLACE = Path.of("../shared/DOC.md");
    private static final String PROMISE = "Promise ";

    private final Map<String, String> sections = new LinkedHashMap<>();
    private final Map<String, List<String>> quotes = new LinkedHashMap<>();

    /** Without the document (a checkout that stands alone) the answers are tested all the same, and quotes are taken as they are. */
    Document() {
        if (!Files.isRegularFile(PLACE)) {
            System.out.println("there is no " + PLACE + ": quotes are not looked up");
            return;
        }
        try {
            String all = Files.readString(PLACE).replace("```text", "").replace("```", "");
            for (String section : all.split("(?m)^## ")) {
                int line = section.indexOf('\n');
                String head = line < 0 ? section : section.substring(0, line);
                sections.put(name(head), section.substring(head.length()).replaceAll("\\s+", " ").trim());
            }
        } catch (IOException e) {
            throw new UncheckedIOException(e);
        }
    }

    /** "Promise 4: house" is "Promise 4". */
    private static String name(String head) {
        int colon = head.indexOf(':');
        return colon < 0 ? head.trim() : head.substring(0, colon).trim();
    }

    /** The number of a promise's section; 0 of another one. */
    private static int numberOf(String section) {
        return section.startsWith(PROMISE) ? Integer.parseInt(section.substring(PROMISE.length())) : 0;
    }

    /** Whether these words stand in that section; they count as quoted. */
    boolean quote(String section, String words) {
        quotes.computeIfAbsent(section, s -> new ArrayList<>()).add(words);
        return sections.isEmpty() || sections.getOrDefault(section, "").contains(words);
    }

    /** The parts (up to a full stop or a semicolon) of some promises of which no words were quoted. */
    List<String> unquoted(int first, int last) {
        List<String> left = new ArrayList<>();
        for (Map.Entry<String, String> section : sections.entrySet()) {
            int number = numberOf(section.getKey());
            if (number < first || number > last) {
                continue;
            }
            String words = section.getValue().replaceFirst("^`[^`]*`: ", "");
            for (String part : words.split("(?<=[^ .][.;]) ")) {
                boolean quoted = quotes.getOrDefault(section.getKey(), List.of()).stream().anyMatch(part::contains);
                if (!quoted) {
                    left.add(section.getKey() + ": " + part);
                }
            }
        }
        return left;
    }
}
