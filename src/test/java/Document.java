import java.io.IOException;
import java.nio.file.Files;
import java.nio.file.Path;
import java.util.ArrayList;
import java.util.List;
import java.util.Map;
import java.util.TreeMap;

/**
 * The document's text, part by part, and what the tests have quoted of it: a test of a sentence begins by quoting it,
 * and at the end a part fails of which something was not quoted. So no sentence is without a test of its own.
 */
final class Document {
    private static final Path PATH = Path.of("../shared/DOC.md");

    private final Check check;
    private final Map<String, String> texts = new TreeMap<>();
    private final Map<String, boolean[]> quoted = new TreeMap<>();
    private final List<String> lines;

    Document(Check check) {
        this.check = check;
        lines = linesOf();
        String part = "";
        for (String line : lines) {
            if (line.startsWith("#")) {
                part = line.replaceFirst("^#+ ", "").replaceFirst("^(Promise \\d+):.*", "$1");
            } else if (!line.startsWith("Ahead of the calls")) {
                // The signature that a promise begins with is LanguageTest's.
                String text = part.startsWith("Promise") ? line.replaceFirst("^`[^`]*\\)[^`]*`: ", "") : line;
                texts.merge(part, text + " ", (one, other) -> one + other);
            }
        }
        for (String name : texts.keySet()) {
            quoted.put(name, new boolean[texts.get(name).length()]);
        }
    }

    private static List<String> linesOf() {
        try {
            return Files.readAllLines(PATH);
        } catch (IOException none) {
            System.out.println("there is no " + PATH + ": what is quoted of it is not looked for");
            return new ArrayList<>();
        }
    }

    private boolean isThere() {
        return !lines.isEmpty();
    }

    /** Tells that the checks which follow are of these words. */
    void quote(String part, String words) {
        if (!isThere()) {
            return;
        }
        String text = texts.getOrDefault(part, "");
        int at = text.indexOf(words);
        check.yes(part + " says: " + words, at >= 0);
        while (at >= 0) {
            for (int i = at; i < at + words.length(); i++) {
                quoted.get(part)[i] = true;
            }
            at = text.indexOf(words, at + 1);
        }
    }

    /** Fails with every run of words of the part that was not quoted. */
    void allIsQuoted(String part) {
        if (!isThere()) {
            return;
        }
        String text = texts.getOrDefault(part, "");
        check.no(part + " is there", text.isBlank());
        StringBuilder left = new StringBuilder();
        for (int i = 0; i < text.length(); i++) {
            left.append(quoted.get(part)[i] ? ' ' : text.charAt(i));
        }
        check.same(part + ", not quoted", left.toString().replaceAll("[^A-Za-z0-9]+", " ").trim(), "");
    }
}
