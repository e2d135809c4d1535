import java.io.ByteArrayOutputStream;
import java.io.PrintStream;
import java.net.URL;
import java.net.URLClassLoader;
import java.nio.file.Files;
import java.nio.file.Path;
import java.util.ArrayList;
import java.util.HashMap;
import java.util.HashSet;
import java.util.List;
import java.util.Map;
import java.util.regex.Matcher;
import java.util.regex.Pattern;
import javax.tools.JavaCompiler;
import javax.tools.ToolProvider;

/**
 * README.md has each call in the document's words with the answers below 0 that the document names, in
 * its order; its numbers are those of the document; and its example prints what stands behind it.
 */
public final class ReadmeTest {
    private static final Pattern CODE = Pattern.compile("\\b(NONE|BAD|STATE|FULL|NOTHING|NOT|BEYOND|BELOW|NO)\\b|-100|-5");
    private static final String LACK = "-5";
    private static int wrong = 0;

    private static void check(boolean fine, String what) {
        if (!fine) {
            wrong++;
            System.out.println(what);
        }
    }

    public static void main(String[] args) throws Exception {
        String readme = Files.readString(Path.of("README.md"));
        String document = Files.readString(Path.of("../shared/DOC.md"));
        callsAreTheDocuments(readme, document);
        numbersAreTheDocuments(readme, document);
        examplePrintsWhatItSays(readme);
        textsAreRead(readme);
        testsAreNamed(readme);
        System.out.println(wrong == 0 ? "README.md says what holds" : wrong + " of README.md do not hold");
        if (wrong != 0) {
            System.exit(1);
        }
    }

    private static void callsAreTheDocuments(String readme, String document) {
        Map<String, String[]> rows = new HashMap<>();
        Matcher row = Pattern.compile("(?m)^\\| `([^`]+)` \\| (.*?) \\| ?(.*?) ?\\|$").matcher(readme);
        while (row.find()) {
            check(rows.put(row.group(1), new String[] {row.group(2), row.group(3)}) == null, "told twice: " + row.group(1));
        }
        Matcher promise = Pattern.compile("(?m)^`((?:int|long) [^`]+)`: (.*)$").matcher(document);
        int calls = 0;
        while (promise.find()) {
            calls++;
            String[] has = rows.get(promise.group(1));
            check(has != null, "README.md has no row for " + promise.group(1));
            if (has != null) callIsTheDocuments(promise.group(1), promise.group(2), has);
        }
        check(calls == 47 && rows.size() == calls, calls + " promises of calls, " + rows.size() + " rows");
    }

    private static void callIsTheDocuments(String call, String promise, String[] has) {
        check(promise.startsWith(has[0]), call + ": the document doesn't say \"" + has[0] + "\"");
        List<String> due = codes(promise);
        List<String> told = codes(has[0] + " " + has[1]);
        check(new HashSet<>(due).equals(new HashSet<>(told)), call + " answers " + told + ", due is " + due);
        due.remove(LACK);
        told.remove(LACK);
        check(due.equals(told), call + " looks at " + told + " in turn, due is " + due);
    }

    private static List<String> codes(String text) {
        List<String> all = new ArrayList<>();
        Matcher m = CODE.matcher(text);
        while (m.find()) all.add(m.group());
        return all;
    }

    /** In the document a number stands behind its name; those of the face are constants, too. */
    private static void numbersAreTheDocuments(String readme, String document) {
        String[][] due = {{"NONE", "-1"}, {"BAD", "-2"}, {"STATE", "-3"}, {"FULL", "-4"}, {"NOT", "-7"},
            {"NOTHING", "-11"}, {"BEYOND", "-13"}, {"BELOW", "-14"}};
        for (String[] one : due) {
            check(document.contains(one[0] + " (" + one[1] + ")"), "the document has no " + one[0] + " of " + one[1]);
            check(readme.contains("| " + one[0] + " | " + one[1] + " |"), "README.md has no " + one[0] + " of " + one[1]);
        }
        check(document.contains("`NO = Long.MIN_VALUE`") && readme.contains("| NO | Long.MIN_VALUE |"), "NO");
        check(readme.contains("| -5 | -5 |") && readme.contains("| -100 | -100 and below |"), "-5, -100");
    }

    private static String block(String readme, String kind) {
        Matcher m = Pattern.compile("(?s)```" + kind + "\n(.*?)```").matcher(readme);
        boolean found = m.find();
        check(found, "README.md has no " + kind);
        return found ? m.group(1) : "";
    }

    private static void examplePrintsWhatItSays(String readme) throws Exception {
        String source = block(readme, "java");
        String want = block(readme, "text");
        Path into = Files.createTempDirectory("readme");
        Path file = into.resolve("Example.java");
        Files.writeString(file, source);
        String classes = System.getProperty("java.class.path");
        JavaCompiler javac = ToolProvider.getSystemJavaCompiler();
        int answer = javac == null ? -1 : javac.run(null, null, null,
                "-encoding", "UTF-8", "-cp", classes, "-d", into.toString(), file.toString());
        check(answer == 0, "the example does not compile");
        if (answer == 0) {
            String got = printedBy(into);
            check(got.equals(want), "the example prints\n" + got + "and README.md says\n" + want);
        }
        Files.deleteIfExists(into.resolve("Example.class"));
        Files.deleteIfExists(file);
        Files.deleteIfExists(into);
    }

    private static String printedBy(Path classes) throws Exception {
        PrintStream screen = System.out;
        ByteArrayOutputStream printed = new ByteArrayOutputStream();
        try (URLClassLoader loader = new URLClassLoader(new URL[] {classes.toUri().toURL()})) {
            System.setOut(new PrintStream(printed, true, "UTF-8"));
            loader.loadClass("Example").getMethod("main", String[].class).invoke(null, (Object) new String[0]);
        } finally {
            System.setOut(screen);
        }
        return printed.toString("UTF-8").replace(System.lineSeparator(), "\n");
    }

    /** What it shows of the two texts can be read. */
    private static void textsAreRead(String readme) {
        String[] texts = {"5,9@10-50/5d20;9,9@0-30/6u30", "0:0,1;2:3"};
        for (String text : texts) check(readme.contains("`" + text + "`"), "README.md has no text " + text);
        RoundSlack x = new RoundSlack();
        feed(x, texts[0]);
        check(x.orders() == 2, "the ORDERS of README.md");
        x.order(0, 0, 0, 600, 0);
        x.order(0, 0, 0, 600, 0);
        feed(x, texts[1]);
        check(x.plan() == 3, "the PLAN of README.md");
    }

    private static void feed(RoundSlack x, String text) {
        for (int i = 0; i < text.length(); i++) x.feed(text.charAt(i));
    }

    private static void testsAreNamed(String readme) throws Exception {
        try (var files = Files.list(Path.of("src/test/java"))) {
            for (Path file : (Iterable<Path>) files::iterator) {
                String name = file.getFileName().toString().replace(".java", "");
                check(!name.endsWith("Test") || readme.contains("- `" + name + "`"), "README.md has no test " + name);
            }
        }
    }
}
