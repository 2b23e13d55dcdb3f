import java.io.IOException;
import java.nio.file.Files;
import java.nio.file.Path;
import java.util.TreeMap;

/**
 * Tests of single sentences. Each names its promise (TERMS: the section of that name) and quotes the document's words, which
 * must stand there as they are quoted; no word of a promise may be left that no test quotes.
 */
final class Edge {
    static final int TERMS = 0;

    private static final String DOCUMENT = document();
    private static final TreeMap<Integer, boolean[]> QUOTED = new TreeMap<>();

    private Edge() {
    }

    private static String document() {
        try {
            return Files.readString(Path.of("../shared/DOC.md"));
        } catch (IOException e) {
            throw new IllegalStateException("the tests run in the project's directory, beside ../shared", e);
        }
    }

    private static String name(int promise) {
        return promise == TERMS ? "Terms" : "Promise " + promise;
    }

    /** The words of a section, in one line: without its heading, the call's own line, fences, and what the interface says ahead of calls. */
    private static String section(int promise) {
        int head = DOCUMENT.indexOf("\n## " + (promise == TERMS ? "Terms\n" : "Promise " + promise + ": "));
        int from = DOCUMENT.indexOf('\n', head + 1);
        String words = DOCUMENT.substring(from, DOCUMENT.indexOf("\n## ", from));
        return words.replaceAll("(?m)^(```.*|Ahead of the calls .*)$", " ").replaceAll("(?m)^(`[^`]*`: |\\d\\. )", "")
            .replaceAll("\\s+", " ").trim();
    }

    private static void quote(int promise, String words) {
        String section = section(promise);
        boolean[] quoted = QUOTED.computeIfAbsent(promise, key -> new boolean[section.length()]);
        int at = section.indexOf(words);
        Due.due(name(promise) + " says \"" + words + "\"", true, at >= 0 && words.length() > 4);
        for (; at >= 0; at = section.indexOf(words, at + 1)) {
            for (int i = at; i < at + words.length(); i++) {
                quoted[i] = true;
            }
        }
    }

    static void of(int promise, String words, Due.Calls test) {
        quote(promise, words);
        Due.at(name(promise) + ", \"" + words + "\": ");
        int before = Due.asked();
        try {
            test.run();
        } catch (RuntimeException e) {
            Due.due("a test that ends (" + e + ")", true, false);
        }
        Due.due("a test that asks something", true, Due.asked() > before);
        Due.at("");
    }

    /** Fails for each run of words of these promises that no test has quoted. */
    static void allAreQuoted(int first, int last) {
        for (int promise = first; promise <= last; promise++) {
            String section = section(promise);
            boolean[] quoted = QUOTED.getOrDefault(promise, new boolean[section.length()]);
            StringBuilder left = new StringBuilder();
            for (int i = 0; i < section.length(); i++) {
                left.append(quoted[i] ? ' ' : section.charAt(i));
            }
            Due.due(name(promise) + ", words without a test", "", left.toString().trim().replaceAll(" +", " "));
        }
    }
}
