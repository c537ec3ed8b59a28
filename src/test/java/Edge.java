import java.io.IOException;
import java.nio.charset.StandardCharsets;
import java.nio.file.Files;
import java.nio.file.Path;
import java.util.Arrays;
import java.util.LinkedHashMap;
import java.util.Map;

/**
 * The document's sentences that the edges name. A sentence must stand in the document word for word, in its
 * promise or in the terms, so that a test cannot go on naming what the document no longer says; and no word of
 * the promises and the terms may be left without an edge that names it.
 */
final class Edge {
    private static final int PROMISES = 37;
    private static final Path DOCUMENT = Path.of("../shared/DOC.md");

    /** 0: the terms; else a promise, without its signature. */
    private static final Map<Integer, String> TEXTS = new LinkedHashMap<>();
    private static final Map<Integer, boolean[]> NAMED = new LinkedHashMap<>();

    private Edge() {
    }

    static void open() throws IOException {
        String document = Files.readString(DOCUMENT, StandardCharsets.UTF_8);
        keep(0, terms(document));
        for (int promise = 1; promise <= PROMISES; promise++) {
            String text = section(document, "## Promise " + promise + ":");
            keep(promise, text.substring(text.indexOf("`:") + 2));
        }
    }

    private static void keep(int promise, String text) {
        TEXTS.put(promise, text);
        NAMED.put(promise, new boolean[text.length()]);
    }

    /** The terms, and how long an object is used; without fences, numbers of parts and the calls' headings. */
    private static String terms(String document) {
        StringBuilder text = new StringBuilder();
        String object = "An object is used for ";
        int at = document.indexOf(object);
        text.append(document, at, document.indexOf('\n', at)).append('\n');
        for (String line : section(document, "## Terms").split("\n")) {
            if (!line.startsWith("```") && !line.startsWith("Ahead of the calls ")) {
                text.append(line.replaceFirst("^======== [0-9] ", "")).append('\n');
            }
        }
        return text.toString();
    }

    private static String section(String document, String heading) {
        int from = document.indexOf('\n', document.indexOf("\n" + heading) + 1);
        int to = document.indexOf("\n## ", from);
        return document.substring(from, to);
    }

    /** From here on answers are due by this sentence. A sentence of every promise is named by 0. */
    static void says(int promise, String sentence) {
        Due.under((promise == 0 ? "terms" : "promise " + promise) + ", \"" + sentence + "\": ");
        int text = TEXTS.get(promise).contains(sentence) ? promise : 0;
        int at = TEXTS.get(text).indexOf(sentence);
        Due.holds("stands in the document", at >= 0);
        while (at >= 0) {
            Arrays.fill(NAMED.get(text), at, at + sentence.length(), true);
            at = TEXTS.get(text).indexOf(sentence, at + 1);
        }
    }

    /** What throws is an answer that is not as due, by the sentence that was named last. */
    static void each(Runnable... edges) {
        for (Runnable edge : edges) {
            try {
                edge.run();
            } catch (RuntimeException thrown) {
                Due.holds("threw " + thrown, false);
            }
        }
    }

    static void nothingIsLeftOut() {
        Due.under("");
        for (int promise : TEXTS.keySet()) {
            String text = TEXTS.get(promise);
            StringBuilder left = new StringBuilder();
            for (int i = 0; i < text.length(); i++) {
                boolean word = Character.isLetterOrDigit(text.charAt(i));
                if (word && !NAMED.get(promise)[i]) {
                    left.append(text.charAt(i));
                } else if (left.length() > 0 && left.charAt(left.length() - 1) != ' ') {
                    left.append(' ');
                }
            }
            String where = promise == 0 ? "the terms" : "promise " + promise;
            Due.holds("an edge names every word of " + where + ", not yet: " + left, left.length() == 0);
        }
    }
}
