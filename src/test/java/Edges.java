import java.util.ArrayList;
import java.util.List;

/**
 * What a test of an edge is made with. Each has a new RoundSlack of its own and names the promise and
 * the sentence of the document that asks for the answer; the sentence must stand there to the letter.
 */
abstract class Edges {
    static final int NONE = -1, BAD = -2, STATE = -3, FULL = -4, LACK = -5, NOT = -7;
    static final int NOTHING = -11, BEYOND = -13, BELOW = -14;
    static final long NO = Long.MIN_VALUE;
    static final int LEAST = Integer.MIN_VALUE, MOST = Integer.MAX_VALUE;

    static final int[] NO_VANS = {-1, 4, LEAST, MOST};
    /** Sentences that hold for calls of all parts. */
    static final String FIRST_WORD = "the first that a call's words name (-5 is told only where none of them is)";
    static final String STEP = "STEPS DONE: each call of put(), take(), move(), descent(), fill(), ruin(), again()"
            + " that changes ROUNDS is one";
    static final String FORGOTTEN = "All are forgotten when depot(), order(), load(), van(), orders(), plan() or undo()"
            + " does what it is asked";

    /** The calls of one test, on an object that is new. */
    interface Calls {
        void on(RoundSlack x);
    }

    /** One call, asked for its answer. */
    interface Call {
        long answer();
    }

    static final Document DOCUMENT = new Document();
    static final List<String> WRONG = new ArrayList<>();
    static int tests = 0;
    private static String now = "";

    /** All tests of this part. */
    abstract void all();

    static void edge(int promise, String sentence, String which, Calls calls) {
        tests++;
        now = "promise " + promise + ", \"" + sentence + "\", " + which + ": ";
        if (!DOCUMENT.quote(promise, sentence)) wrong("the document has no such sentence");
        try {
            calls.on(new RoundSlack());
        } catch (RuntimeException | Error e) {
            wrong("threw " + e);
        }
    }

    private static void wrong(String what) {
        WRONG.add(now + what);
    }

    static void due(long got, long want) {
        if (got != want) wrong("line " + line() + " answered " + got + ", due is " + want);
    }

    static void dueText(String got, String want) {
        if (!got.equals(want)) wrong("line " + line() + " has " + got + ", due is " + want);
    }

    /** Of the part that asked. */
    private static int line() {
        return StackWalker.getInstance().walk(all -> all
                .filter(f -> !f.getClassName().equals("Edges")).findFirst().map(f -> f.getLineNumber()).orElse(0));
    }

    /** The answer is due, and nothing is otherwise behind the call: it was refused, or only asked. */
    static void still(RoundSlack x, Call call, long want) {
        String ahead = picture(x, true);
        due(call.answer(), want);
        dueText(picture(x, true), ahead);
    }

    /** Likewise, but THE TAPE was read: it is empty. */
    static void stillButTape(RoundSlack x, Call call, long want) {
        String ahead = picture(x, false);
        due(call.answer(), want);
        dueText(picture(x, false), ahead);
        due(x.told(4), 0);
    }

    /** All that can be seen without changing anything. */
    private static String picture(RoundSlack x, boolean withTape) {
        StringBuilder s = new StringBuilder();
        for (int what = 0; what <= 31; what++) {
            if (what <= 10 && (what != 4 || withTape) || what >= 20) s.append(x.told(what)).append(' ');
        }
        for (int order = 0; order < x.told(0); order++) {
            for (int what = 0; what <= 9; what++) s.append(x.of(order, what)).append(' ');
        }
        s.append(rounds(x));
        for (int row = 0; row < 4; row++) s.append(" row ").append(row(x, row));
        return s.append(" paper ").append(paper(x)).toString();
    }

    /** ROUNDS as a text, without THE PAPER. */
    static String rounds(RoundSlack x) {
        StringBuilder s = new StringBuilder();
        for (int van = 0; van < 4; van++) {
            for (int k = 0; k < x.stops(van); k++) {
                s.append(k > 0 ? "," : (s.length() > 0 ? ";" : "") + van + ":").append(x.stop(van, k));
            }
        }
        return s.toString();
    }

    static void dueRounds(RoundSlack x, String want) {
        dueText(rounds(x), want);
    }

    static String paper(RoundSlack x) {
        StringBuilder s = new StringBuilder();
        for (int i = 0; i < x.told(5); i++) s.append((char) x.paper(i));
        return s.toString();
    }

    /** What is in a ROW, with a blank between. */
    static String row(RoundSlack x, int row) {
        StringBuilder s = new StringBuilder();
        for (int i = 0; x.get(row, i) != NO; i++) s.append(i > 0 ? " " : "").append(x.get(row, i));
        return s.toString();
    }

    /** A ROW becomes these. */
    static void setRow(RoundSlack x, int row, int... ints) {
        due(x.row(row, ints.length), 1);
        for (int i = 0; i < ints.length; i++) due(x.set(row, i, ints[i]), 1);
    }

    static void feed(RoundSlack x, String text) {
        for (int i = 0; i < text.length(); i++) due(x.feed(text.charAt(i)), i + 1);
    }

    static int orders(RoundSlack x, String text) {
        feed(x, text);
        return x.orders();
    }

    static int plan(RoundSlack x, String text) {
        feed(x, text);
        return x.plan();
    }

    /** Orders one behind the other: 0 is 1 from the depot, 1 is 2 from it, .. */
    static void line(RoundSlack x, int orders) {
        for (int i = 0; i < orders; i++) due(x.order(i + 1, 0, 0, 600, 0), i);
    }

    /** Orders with all hours open: x and y of each. */
    static void places(RoundSlack x, int... xy) {
        for (int i = 0; i < xy.length / 2; i++) due(x.order(xy[2 * i], xy[2 * i + 1], 0, 600, 0), i);
    }

    /** So many orders that cost no driving. */
    static void atTheDepot(RoundSlack x, int orders) {
        for (int i = 0; i < orders; i++) due(x.order(0, 0, 0, 600, 0), i);
    }
}
