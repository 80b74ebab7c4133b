import java.io.IOException;
import java.io.UncheckedIOException;
import java.nio.file.Files;
import java.nio.file.Path;
import java.util.ArrayList;
import java.util.List;

/**
 * The words of ../shared/DOC.md: its terms, and what each promise says. Tests quote them by
 * promise; what no test has quoted can be told in the end.
 */
final class Document {
    static final int PROMISES = 43;

    /** One piece of the document and which of its signs some test has quoted. */
    private static final class Piece {
        final String name;
        final String words;
        final boolean[] quoted;

        Piece(String name, String words) {
            this.name = name;
            this.words = words;
            quoted = new boolean[words.length()];
        }

        boolean quote(String part) {
            int at = words.indexOf(part);
            for (int k = 0; at >= 0 && k < part.length(); k++) {
                quoted[at + k] = true;
            }
            return at >= 0;
        }

        boolean tellsOnce(String part) {
            return words.indexOf(part) >= 0 && words.indexOf(part) == words.lastIndexOf(part);
        }

        void addSilent(List<String> found) {
            StringBuilder silent = new StringBuilder();
            for (int k = 0; k <= quoted.length; k++) {
                if (k < quoted.length && !quoted[k]) {
                    silent.append(words.charAt(k));
                } else {
                    String told = silent.toString().trim();
                    silent.setLength(0);
                    if (told.matches(".*\\w.*")) {
                        found.add(name + ": \"" + told + "\"");
                    }
                }
            }
        }
    }

    private static final Path PLACE = Path.of("../shared/DOC.md");

    private final Piece terms;
    private final Piece[] promises = new Piece[PROMISES + 1];

    /** The document, or null where it is not at hand: then no words can be looked up. */
    static Document read() {
        if (!Files.exists(PLACE)) {
            System.out.println("no " + PLACE + ": the words that tests quote are not looked up");
            return null;
        }
        try {
            return new Document(Files.readString(PLACE));
        } catch (IOException e) {
            throw new UncheckedIOException(e);
        }
    }

    private Document(String text) {
        String used = between(text, "An object is used for", "## The public face");
        terms = new Piece("Terms", plain("An object is used for" + used
                + between(text, "## Terms", "## Promise 1:").replaceAll("Ahead of the calls [^\n]*", "")));
        for (int k = 1; k <= PROMISES; k++) {
            String next = k < PROMISES ? "## Promise " + (k + 1) + ":" : "## Not promised";
            String section = between(text, "## Promise " + k + ":", next);
            promises[k] = new Piece("promise " + k, plain(section.substring(section.indexOf("`:") + 2)));
        }
    }

    private static String between(String text, String from, String to) {
        int start = text.indexOf(from) + from.length();
        return text.substring(start, text.indexOf(to, start));
    }

    private static String plain(String text) {
        return text.replaceAll("```(text)?|={8} \\d ", " ").replaceAll("\\s+", " ").trim();
    }

    /** Whether a promise says so, or the terms do, in one place alone. */
    boolean quote(int promise, String words) {
        if (promises[promise].quote(words)) {
            return true;
        }
        return terms.tellsOnce(words) && terms.quote(words);
    }

    List<String> silent() {
        List<String> found = new ArrayList<>();
        terms.addSilent(found);
        for (int k = 1; k <= PROMISES; k++) {
            promises[k].addSilent(found);
        }
        return found;
    }
}
