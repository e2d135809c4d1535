import java.io.IOException;
import java.nio.file.Files;
import java.nio.file.Path;
import java.util.ArrayList;
import java.util.List;
import java.util.regex.Matcher;
import java.util.regex.Pattern;

/**
 * The document's sentences: those of each promise, and those that hold for every promise (what it is,
 * the face, the terms). It keeps which words a test has quoted, so that none is left without a test.
 */
final class Document {
    static final int PROMISES = 48;
    private static final Path FILE = Path.of("../shared/DOC.md");

    private final String[] promises = new String[PROMISES + 1];
    private final boolean[][] quotedOfPromise = new boolean[PROMISES + 1][];
    private final String terms;
    private final boolean[] quotedOfTerms;
    /** Looked into as well, but what it tells need not be quoted: the face is FaceTest's. */
    private final String ahead;

    Document() {
        String all = read();
        ahead = oneLine(between(all, "## What it is", "## Terms"));
        terms = oneLine(between(all, "## Terms", "## Promise 1:").replaceAll("(?m)^(```.*|==== \\d|Ahead of the calls.*$)", ""));
        quotedOfTerms = new boolean[terms.length()];
        for (int i = 1; i <= PROMISES; i++) {
            String next = i < PROMISES ? "## Promise " + (i + 1) + ":" : "## Not promised";
            String text = between(all, "## Promise " + i + ":", next);
            promises[i] = oneLine(text.substring(text.indexOf("`:") + 2));
            quotedOfPromise[i] = new boolean[promises[i].length()];
        }
    }

    private static String read() {
        try {
            return Files.readString(FILE);
        } catch (IOException e) {
            throw new IllegalStateException("there is no document at " + FILE, e);
        }
    }

    private static String between(String all, String from, String to) {
        int at = all.indexOf(from);
        int end = all.indexOf(to, at);
        if (at < 0 || end < 0) throw new IllegalStateException("the document has no part from " + from + " to " + to);
        return all.substring(at + from.length(), end);
    }

    private static String oneLine(String text) {
        return text.replaceAll("\\s+", " ").trim();
    }

    /** False: it stands neither in the promise nor in what holds for every promise. */
    boolean quote(int promise, String sentence) {
        return mark(promises[promise], quotedOfPromise[promise], sentence)
                || mark(terms, quotedOfTerms, sentence) || ahead.contains(sentence);
    }

    private static boolean mark(String text, boolean[] quoted, String sentence) {
        boolean found = false;
        Matcher m = Pattern.compile("(?<!\\w)" + Pattern.quote(sentence) + "(?!\\w)").matcher(text);
        while (m.find()) {
            found = true;
            for (int i = m.start(); i < m.end(); i++) quoted[i] = true;
        }
        return found;
    }

    /** What no test has quoted as yet, piece by piece. */
    List<String> notQuoted() {
        List<String> all = new ArrayList<>();
        for (int i = 1; i <= PROMISES; i++) collect("promise " + i, promises[i], quotedOfPromise[i], all);
        collect("terms", terms, quotedOfTerms, all);
        return all;
    }

    private static void collect(String where, String text, boolean[] quoted, List<String> all) {
        for (int i = 0; i < text.length(); i++) {
            int from = i;
            while (i < text.length() && !quoted[i]) i++;
            String piece = text.substring(from, i);
            if (piece.matches("(?s).*[A-Za-z0-9].*")) all.add(where + ": " + piece.trim());
        }
    }
}
