import java.lang.reflect.Method;
import java.util.ArrayList;
import java.util.List;
import java.util.Random;

/** The same calls, by chance but the same each time, to RoundSlack and to the Model. */
public final class ModelTest {
    private static final int CALLS = 500;
    private final Random chance;
    private final RoundSlack real = new RoundSlack();
    private final Model model = new Model();
    private final List<String> calls = new ArrayList<>();
    private String wrong = null;
    /** How wide the hours are: close ones make rounds that are NOT good. */
    private final int width;

    private ModelTest(long seed) {
        chance = new Random(seed);
        width = 20 + chance.nextInt(400);
    }

    public static void main(String[] args) throws Exception {
        int runs = args.length > 0 ? Integer.parseInt(args[0]) : 300;
        int first = args.length > 1 ? Integer.parseInt(args[1]) : 0;
        int bad = 0;
        for (int run = first; run < first + runs; run++) {
            ModelTest test = new ModelTest(run);
            test.run();
            if (test.wrong != null) {
                bad++;
                System.out.println("run " + run + ":");
                for (String call : test.calls) System.out.print(" " + call);
                System.out.println();
                System.out.println("  " + test.wrong);
                if (bad >= 3) break;
            }
        }
        System.out.println(bad == 0 ? "the model says the same in " + runs + " runs"
                : bad + " runs are otherwise than the model says");
        if (bad != 0) System.exit(1);
    }

    private void run() throws Exception {
        if (chance.nextInt(10) > 0) {
            begin();
        }
        while (calls.size() < CALLS && wrong == null) {
            next();
        }
    }

    private void begin() throws Exception {
        if (chance.nextBoolean()) call("depot", n(41), n(41));
        if (chance.nextBoolean()) call("price", 1, n(10));
        if (chance.nextBoolean()) call("price", 0, n(10));
        if (chance.nextBoolean()) call("price", 2, n(300));
        for (int v = 0; v < 4; v++) {
            if (chance.nextBoolean()) call("van", v, 20 + n(100), n(100), 150 + n(600));
        }
        int orders = 3 + n(10);
        for (int o = 0; o < orders && wrong == null; o++) {
            newOrder();
            if (chance.nextBoolean()) call("load", o, 0, n(40));
            if (chance.nextBoolean()) call("load", o, 1, n(40));
            if (n(4) == 0) call("load", o, 2, n(3000));
        }
        if (chance.nextBoolean()) call("fill", 1 + n(4));
    }

    private void newOrder() throws Exception {
        int open = n(300);
        int small = chance.nextBoolean() ? 41 : 6;
        call("order", n(small), n(small), open, Math.min(600, open + n(width)), n(20));
    }

    private int n(int bound) {
        return chance.nextInt(bound);
    }

    /** Mostly from a to b, now and then beside it or anywhere. */
    private int about(int a, int b) {
        int kind = n(40);
        if (kind == 0) return a - 1;
        if (kind == 1) return b + 1;
        if (kind == 2) return new int[] {Integer.MIN_VALUE, Integer.MAX_VALUE, -1, -2, 1 << 16}[n(5)];
        return a + n(Math.max(1, b - a + 1));
    }

    private int anOrder() {
        return about(0, Math.max(0, model.w.orders.size() - 1));
    }

    private int aVan() {
        return about(0, 3);
    }

    private int aLeft() {
        List<Integer> all = new ArrayList<>();
        for (int o = 0; o < model.w.orders.size(); o++) if (model.isLeft(o)) all.add(o);
        return all.isEmpty() || n(12) == 0 ? anOrder() : all.get(n(all.size()));
    }

    private int aDriven() {
        List<Integer> all = new ArrayList<>();
        for (int o = 0; o < model.w.orders.size(); o++) if (!model.isLeft(o)) all.add(o);
        return all.isEmpty() || n(12) == 0 ? anOrder() : all.get(n(all.size()));
    }

    private int stopsOf(int van) {
        return Math.max(0, model.stops(van));
    }

    private void next() throws Exception {
        int kind = n(100);
        if (kind < 8) tellSomething();
        else if (kind < 34) ask();
        else if (kind < 70) change();
        else if (kind < 86) askOfMoves();
        else if (kind < 94) rowsAndImage();
        else if (kind < 96) text();
        else dump();
    }

    private void tellSomething() throws Exception {
        switch (n(9)) {
            case 0: call("depot", about(0, 40), about(0, 40)); break;
            case 1: newOrder(); break;
            case 2: call("order", about(0, 40), about(0, 40), about(0, 300), about(300, 600), about(0, 60)); break;
            case 3: call("load", aLeft(), about(0, 2), about(0, 50)); break;
            case 4: call("load", aLeft(), 2, about(0, 9999)); break;
            case 5: case 6: call("van", aVan(), about(0, 200), about(0, 200), about(200, 999)); break;
            case 7: call("price", about(0, 1), about(0, 9)); break;
            default: call("price", about(0, 2), about(0, 999)); break;
        }
    }

    private void ask() throws Exception {
        int van = aVan();
        switch (n(14)) {
            case 0: call("way", anOrder() - n(2), anOrder() - n(2)); break;
            case 1: call("of", anOrder(), about(0, 9)); break;
            case 2: call("stops", van); break;
            case 3: call("stop", van, about(0, stopsOf(van))); break;
            case 4: call("driven", van, about(0, stopsOf(van)), about(0, 4)); break;
            case 5: call("latest", van, about(0, stopsOf(van))); break;
            case 6: call("slack", van, about(0, stopsOf(van))); break;
            case 7: call("piece", van, about(0, stopsOf(van) - 1), about(0, stopsOf(van) - 1), about(0, 6)); break;
            case 8: call("whole", van, about(0, 6)); break;
            case 9: call("cost", van - n(2)); break;
            case 10: call("would", aLeft(), van, about(0, stopsOf(van))); break;
            case 11: call("priced", aLeft(), van); break;
            case 12: call("placed", aLeft(), van); break;
            default: call("regret", aLeft(), about(1, 4)); break;
        }
    }

    private void change() throws Exception {
        int van = aVan();
        int kind = about(0, 3);
        switch (n(20)) {
            case 0: case 1: case 2: case 3: case 4: case 5:
                call("put", aLeft(), van, about(0, stopsOf(van))); break;
            case 6: case 7: call("take", anOrder()); break;
            case 8: case 9: case 10: case 11: case 12: case 13: {
                int[] m = someMove(kind);
                call("move", kind, m[0], m[1], m[2]);
                break;
            }
            case 14: call("descent", n(3) == 0 ? about(1, 40) : about(1, 3)); break;
            case 15: call("fill", about(1, 4)); break;
            case 16: call("ruin", anOrder(), about(1, n(3) == 0 ? 12 : 3)); break;
            case 17: call("again", anOrder(), about(1, 12), about(1, 4)); break;
            default: call("back"); break;
        }
    }

    private int[] someMove(int kind) {
        switch (kind) {
            case 0: {
                int van = aVan();
                return new int[] {aDriven(), van, about(0, stopsOf(van))};
            }
            case 1: {
                int one = aDriven();
                int other = aDriven();
                if (one > other && n(8) > 0) return new int[] {other, one, 0};
                return new int[] {one, other, n(10) == 0 ? 1 : 0};
            }
            case 2: {
                int a = about(0, 2);
                int b = about(Math.min(a, 3), 3);
                int i = n(3) == 0 ? n(2) : about(0, stopsOf(a));
                return new int[] {a, b, i + 16 * about(0, stopsOf(b))};
            }
            default: {
                int van = aVan();
                int from = about(0, stopsOf(van) - 1);
                return new int[] {van, from, about(Math.min(from, 12), stopsOf(van) - 1)};
            }
        }
    }

    private void askOfMoves() throws Exception {
        int kind = about(0, 3);
        int[] m = someMove(kind);
        switch (n(6)) {
            case 0: case 1: call("may", kind, m[0], m[1], m[2]); break;
            case 2: case 3: call("gain", kind, m[0], m[1], m[2]); break;
            case 4: call("best", kind, about(0, 3)); break;
            default: call(n(2) == 0 ? "many" : "first", n(2) == 0 ? kind : about(1, 4)); break;
        }
    }

    private void rowsAndImage() throws Exception {
        int row = about(0, 3);
        switch (n(9)) {
            case 0: call("row", row, about(0, 40)); break;
            case 1: call("row", row, 16 + n(10)); break;
            case 2: call("set", row, about(0, 20), about(-1, 11)); break;
            case 3: call("get", row, about(0, 20)); break;
            case 4: call("lay", row, about(0, 24)); break;
            case 5: call("judge", row, about(0, 6)); break;
            case 6:
                call("row", row, 40);
                int at = n(8);
                call("lay", row, at);
                if (n(2) == 0) call("set", row, at + n(8), about(-1, 11));
                call("judge", row, at);
                break;
            case 7: call("image"); break;
            default: if (n(3) == 0) call("undo"); break;
        }
    }

    private void text() throws Exception {
        int kind = n(8);
        String text;
        if (kind < 3) {
            StringBuilder s = new StringBuilder();
            int parts = 1 + n(3);
            for (int i = 0; i < parts; i++) {
                int open = n(320);
                s.append(i > 0 ? ";" : "").append(n(42)).append(',').append(n(42)).append('@').append(open)
                        .append('-').append(open - 3 + n(300)).append('/').append(n(62));
                if (n(2) == 0) s.append('d').append(n(52));
                if (n(2) == 0) s.append('u').append(n(52));
            }
            text = spoiled(s.toString());
        } else if (kind < 5) {
            model.spell();
            call("spell");
            text = spoiled(model.paper);
        } else if (kind < 7) {
            StringBuilder s = new StringBuilder();
            for (int v = 0; v < 4; v++) {
                if (n(2) == 0) continue;
                s.append(s.length() > 0 ? ";" : "").append(v);
                for (int k = 0; k <= n(3); k++) s.append(k == 0 ? ':' : ',').append(n(13));
            }
            text = spoiled(s.toString());
        } else {
            int most = 160 + n(4);
            StringBuilder s = new StringBuilder("0,0@0-0/0");
            while (s.length() < most) s.append(n(30) == 0 ? ";1,1@10-20/5" : ";1,1@1-1/1");
            text = s.toString();
            if (calls.size() > CALLS - 200) return;
        }
        for (int i = 0; i < text.length() && wrong == null; i++) call("feed", (int) text.charAt(i));
        if (n(20) == 0) call("clear");
        if (n(20) == 0) call("feed", about(1, 127));
        call((kind < 3 || kind == 7) == (n(20) > 0) ? "orders" : "plan");
    }

    private String spoiled(String text) {
        StringBuilder s = new StringBuilder(text);
        String signs = "0123456789,:;@-/du x";
        for (int i = n(3); i > 1 && s.length() > 0; i--) {
            int at = n(s.length());
            char sign = signs.charAt(n(signs.length()));
            switch (n(4)) {
                case 0: s.setCharAt(at, sign); break;
                case 1: s.insert(at, sign); break;
                case 2: s.deleteCharAt(at); break;
                default: s.setLength(at); break;
            }
        }
        return s.toString();
    }

    /** All that can be asked of what is there, without the dear ones. */
    private void dump() throws Exception {
        switch (n(5)) {
            case 0: for (int i = -1; i < 33; i++) call("told", i); break;
            case 1: for (int v = 0; v < 4; v++) for (int k = 0; k < 7; k++) call("whole", v, k); break;
            case 2: call("left"); for (int v = -1; v < 4; v++) call("cost", v); break;
            case 3: call("spell"); for (int i = 0; i < 34; i++) call("paper", i); break;
            default: {
                int van = n(4);
                for (int k = 0; k <= stopsOf(van); k++) {
                    call("stop", van, k);
                    for (int what = 0; what < 5; what++) call("driven", van, k, what);
                    call("latest", van, k);
                    call("slack", van, k);
                }
                break;
            }
        }
    }

    private static Method method(Class<?> type, String name) {
        for (Method m : type.getDeclaredMethods()) {
            if (m.getName().equals(name) && java.lang.reflect.Modifier.isPublic(m.getModifiers())) {
                m.setAccessible(true);
                return m;
            }
        }
        throw new IllegalStateException(name);
    }

    private static final java.util.Map<String, Method[]> METHODS = new java.util.HashMap<>();

    private void call(String name, Integer... args) throws Exception {
        if (wrong != null || calls.size() >= CALLS) return;
        Method[] both = METHODS.computeIfAbsent(name,
                k -> new Method[] {method(RoundSlack.class, k), method(Model.class, k)});
        long want = ((Number) both[1].invoke(model, (Object[]) args)).longValue();
        String told = name + java.util.Arrays.toString(args);
        long got;
        try {
            got = ((Number) both[0].invoke(real, (Object[]) args)).longValue();
        } catch (java.lang.reflect.InvocationTargetException e) {
            wrong = told + " threw " + e.getCause();
            return;
        }
        calls.add(told + " " + got);
        if (got != want) wrong = told + " answered " + got + ", due is " + want;
    }
}
