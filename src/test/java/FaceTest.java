import java.lang.reflect.Constructor;
import java.lang.reflect.Field;
import java.lang.reflect.Method;
import java.lang.reflect.Modifier;
import java.nio.file.Files;
import java.nio.file.Path;
import java.util.ArrayList;
import java.util.List;
import java.util.TreeSet;
import java.util.regex.Matcher;
import java.util.regex.Pattern;

/** The face is the document's, and the file keeps to what of LANGUAGE.md can be seen from outside. */
public final class FaceTest {
    private static int wrong = 0;

    private static void check(boolean fine, String what) {
        if (!fine) {
            wrong++;
            System.out.println(what);
        }
    }

    public static void main(String[] args) throws Exception {
        faceIsTheDocuments();
        constants();
        nothingElseIsSeen();
        sizes();
        words();
        methodsAreShort();
        System.out.println(wrong == 0 ? "the face and the language are as told" : wrong + " are not as told");
        if (wrong != 0) {
            System.exit(1);
        }
    }

    private static void faceIsTheDocuments() throws Exception {
        TreeSet<String> want = new TreeSet<>();
        Matcher m = Pattern.compile("    public (int|long) (\\w+)\\(([^)]*)\\);")
                .matcher(Files.readString(Path.of("../shared/DOC.md")));
        while (m.find()) {
            String types = m.group(3).replaceAll("(int|long) \\w+", "$1").replace(" ", "");
            want.add(m.group(1) + " " + m.group(2) + "(" + types + ")");
        }
        check(want.size() == 47, "the document's face has " + want.size() + " methods");
        TreeSet<String> have = new TreeSet<>();
        for (Method method : RoundSlack.class.getDeclaredMethods()) {
            if (Modifier.isPublic(method.getModifiers())) {
                List<String> types = new ArrayList<>();
                for (Class<?> type : method.getParameterTypes()) types.add(type.getName());
                have.add(method.getReturnType() + " " + method.getName() + "(" + String.join(",", types) + ")");
            }
        }
        check(have.equals(want), "the face is " + have + ", due is " + want);
    }

    private static void constants() {
        check(RoundSlack.NONE == -1 && RoundSlack.BAD == -2 && RoundSlack.STATE == -3
                && RoundSlack.FULL == -4 && RoundSlack.NOT == -7, "the answers' constants");
        check(RoundSlack.NO == Long.MIN_VALUE, "NO");
    }

    private static void nothingElseIsSeen() {
        Class<?> it = RoundSlack.class;
        check(Modifier.isPublic(it.getModifiers()) && Modifier.isFinal(it.getModifiers()), "public, final");
        TreeSet<String> publics = new TreeSet<>();
        TreeSet<String> others = new TreeSet<>();
        for (Method m : it.getDeclaredMethods()) {
            check(Modifier.isPublic(m.getModifiers()) || Modifier.isPrivate(m.getModifiers()), "seen: " + m);
            (Modifier.isPublic(m.getModifiers()) ? publics : others).add(m.getName());
        }
        for (Class<?> inside : it.getDeclaredClasses()) {
            check(Modifier.isStatic(inside.getModifiers()) && !Modifier.isPublic(inside.getModifiers())
                    && !Modifier.isProtected(inside.getModifiers()), "not static or seen: " + inside);
            for (Method m : inside.getDeclaredMethods()) others.add(m.getName());
        }
        others.retainAll(publics);
        check(others.isEmpty(), "names of the face that others bear: " + others);
        for (Field f : it.getDeclaredFields()) {
            boolean told = f.getName().matches("NONE|BAD|STATE|FULL|NOT|NO");
            check(told ? Modifier.isPublic(f.getModifiers()) : Modifier.isPrivate(f.getModifiers()), "seen: " + f);
            check(!Modifier.isStatic(f.getModifiers()) || Modifier.isFinal(f.getModifiers()), "static: " + f);
        }
        Constructor<?>[] made = it.getDeclaredConstructors();
        check(made.length == 1 && made[0].getParameterCount() == 0 && Modifier.isPublic(made[0].getModifiers()),
                "the constructor");
    }

    private static void sizes() {
        List<Class<?>> all = new ArrayList<>(List.of(RoundSlack.class.getDeclaredClasses()));
        all.add(RoundSlack.class);
        check(all.size() <= 12, all.size() + " classes");
        for (Class<?> one : all) {
            int fields = 0;
            for (Field f : one.getDeclaredFields()) fields += Modifier.isStatic(f.getModifiers()) ? 0 : 1;
            check(fields <= 20, one + " has " + fields + " fields");
            for (Method m : one.getDeclaredMethods()) check(m.getParameterCount() <= 7, "parameters: " + m);
        }
    }

    private static String bareSource() throws Exception {
        String source = Files.readString(Path.of("src/main/java/RoundSlack.java"));
        check(source.chars().allMatch(c -> c == '\n' || c >= ' ' && c < 127), "signs beyond 126");
        return source.replaceAll("(?s)/\\*.*?\\*/", "").replaceAll("//[^\n]*", "").replaceAll("'[^'\n]+'", "0");
    }

    private static void words() throws Exception {
        String bare = bareSource();
        String[] banned = {"\\bthrow\\b", "\\bthrows\\b", "\\btry\\b", "\\bcatch\\b", "\\bfinally\\b",
            "\\bsynchronized\\b", "\\bassert\\b", "->", "::", "\\bimport\\b", "\\bpackage\\b", "\\bprotected\\b",
            "\\bThread\\b", "currentTimeMillis", "nanoTime", "\\bRandom\\b", "\\bObject\\b", "\\bclass \\w+<",
            "\\w+Exact\\b", "\"", "\\bHashMap\\b", "static \\{", "\\bvar\\b", "\\bvolatile\\b", "\\bnative\\b"};
        for (String word : banned) {
            Matcher m = Pattern.compile(word).matcher(bare);
            check(!m.find(), "the language has no " + word);
        }
    }

    /** Methods end with a brace as far in as they began; calls of new stand in constructors alone. */
    private static void methodsAreShort() throws Exception {
        String[] lines = bareSource().split("\n");
        int begun = -1;
        String indent = "";
        for (int i = 0; i < lines.length; i++) {
            String line = lines[i];
            if (begun < 0 && line.matches("    ( {4})?\\S.*\\).*\\{") && !line.contains("class ")) {
                begun = i;
                indent = line.replaceAll("\\S.*", "");
            } else if (begun >= 0 && line.equals(indent + "}")) {
                check(i - begun < 60, "a method of " + (i - begun + 1) + " lines: " + lines[begun]);
                boolean makes = false;
                for (int k = begun; k <= i; k++) makes |= lines[k].contains("new ");
                boolean constructor = lines[begun].matches(" *(public )?[A-Z]\\w*\\(.*");
                check(!makes || constructor, "something is made in " + lines[begun]);
                begun = -1;
            }
        }
    }
}
