import java.io.IOException;
import java.nio.file.Files;
import java.nio.file.Path;
import java.util.Map;
import java.util.Set;
import java.util.TreeMap;
import java.util.TreeSet;

/**
 * The sentences of the document that name a boundary case, each with a test of its own: a test begins with the
 * words of its sentence and where they stand, and the words must stand there.
 */
final class Sentences {
    private static final Path DOCUMENT = Path.of("../shared/DOC.md");

    final Checks checks = new Checks();
    private final Map<String, String> parts = new TreeMap<>();
    private final Set<String> begun = new TreeSet<>();

    Sentences() throws IOException {
        if (Files.exists(DOCUMENT)) {
            cut(Files.readString(DOCUMENT));
        }
    }

    /** Begins the test of one sentence of a promise. */
    Checks of(int promise, String quote) {
        return of("Promise " + promise, quote);
    }

    /** Begins the test of one sentence elsewhere: of "Terms I", "Terms II", "Terms III", "What it is". */
    Checks of(String where, String quote) {
        checks.begin(where, quote);
        checks.due("a sentence that was not begun ahead", begun.add(where + ": " + quote), true);
        if (!parts.isEmpty()) {
            checks.due("the document has these words there", parts.getOrDefault(where, "").contains(quote), true);
        }
        return checks;
    }

    /** No promise, and none of the terms, is without a sentence. */
    void finish() {
        checks.endSentence();
        for (int promise = 1; promise <= 33; promise++) {
            checks.due("promise " + promise + " has a sentence", has("Promise " + promise + ": "), true);
        }
        for (String where : new String[] {"What it is", "Terms I", "Terms II", "Terms III"}) {
            checks.due(where + " has a sentence", has(where + ": "), true);
        }
        System.out.println(begun.size() + " sentences");
        checks.finish();
    }

    private boolean has(String beginning) {
        return begun.stream().anyMatch(each -> each.startsWith(beginning));
    }

    private void cut(String document) {
        for (String part : document.split("\n## ")) {
            int end = part.indexOf("\n");
            String head = end < 0 ? part : part.substring(0, end);
            parts.put(head.startsWith("Promise ") ? head.substring(0, head.indexOf(":")) : head, plain(part));
        }
        String[] terms = document.split("\n## Terms\n")[1].split("\n## ")[0].split("\n(?=I+\\. )");
        parts.put("Terms I", plain(terms[1]));
        parts.put("Terms II", plain(terms[2]));
        parts.put("Terms III", plain(terms[3]));
    }

    private static String plain(String text) {
        return text.replaceAll("\\s+", " ");
    }
}
