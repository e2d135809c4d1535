import java.util.ArrayDeque;
import java.util.ArrayList;
import java.util.Arrays;
import java.util.Deque;
import java.util.HashMap;
import java.util.List;
import java.util.Map;
import java.util.TreeSet;

/**
 * The document said over in the slowest way there is: hours are tried one by one, rounds are driven
 * anew for each question, moves are looked for among all numbers. It bears the face's names, so that
 * ModelTest can put the same calls to both.
 */
final class Model {
    static final int NONE = -1, BAD = -2, STATE = -3, FULL = -4, LACK = -5, NOT = -7;
    static final int NOTHING = -11, BEYOND = -13, BELOW = -14;
    static final long NO = Long.MIN_VALUE;

    static final class Order {
        int x, y, open, close, service, down, up, penalty = 500;

        Order copy() {
            Order o = new Order();
            o.x = x;
            o.y = y;
            o.open = open;
            o.close = close;
            o.service = service;
            o.down = down;
            o.up = up;
            o.penalty = penalty;
            return o;
        }
    }

    static final class World {
        List<Order> orders = new ArrayList<>();
        int dx, dy;
        int[] capacity = {100, 100, 100, 100}, start = new int[4], end = {600, 600, 600, 600};
        int[] prices = {1, 0, 0};
        List<List<Integer>> rounds = none();

        World copy() {
            World w = new World();
            for (Order o : orders) w.orders.add(o.copy());
            w.dx = dx;
            w.dy = dy;
            w.capacity = capacity.clone();
            w.start = start.clone();
            w.end = end.clone();
            w.prices = prices.clone();
            w.rounds = copyOf(rounds);
            return w;
        }
    }

    World w = new World();
    World image;
    Deque<List<List<Integer>>> steps = new ArrayDeque<>();
    StringBuilder tape = new StringBuilder();
    String paper = "";
    int[][] rows = new int[4][];
    Map<List<Integer>, Integer> costs = new HashMap<>();

    static List<List<Integer>> none() {
        List<List<Integer>> r = new ArrayList<>();
        for (int i = 0; i < 4; i++) r.add(new ArrayList<>());
        return r;
    }

    static List<List<Integer>> copyOf(List<List<Integer>> rounds) {
        List<List<Integer>> r = new ArrayList<>();
        for (List<Integer> one : rounds) r.add(new ArrayList<>(one));
        return r;
    }

    // ---- driving

    int far(int a, int b) {
        int ax = a < 0 ? w.dx : w.orders.get(a).x, ay = a < 0 ? w.dy : w.orders.get(a).y;
        int bx = b < 0 ? w.dx : w.orders.get(b).x, by = b < 0 ? w.dy : w.orders.get(b).y;
        return Math.abs(ax - bx) + Math.abs(ay - by);
    }

    /** Per stop and for the depot behind: comes, begins, leaves, load. */
    int[][] drive(int van, List<Integer> round) {
        int n = round.size();
        int[][] d = new int[n + 1][4];
        int t = w.start[van], at = -1, load = 0;
        for (int o : round) load += w.orders.get(o).down;
        for (int k = 0; k <= n; k++) {
            int to = k < n ? round.get(k) : -1;
            t += far(at, to);
            d[k][0] = t;
            if (to >= 0) t = Math.max(t, w.orders.get(to).open);
            d[k][1] = t;
            if (to >= 0) {
                t += w.orders.get(to).service;
                load = load - w.orders.get(to).down + w.orders.get(to).up;
            }
            d[k][2] = t;
            d[k][3] = load;
            at = to;
        }
        return d;
    }

    boolean good(int van, List<Integer> round) {
        int[][] d = drive(van, round);
        int load = 0;
        for (int o : round) load += w.orders.get(o).down;
        boolean ok = load <= w.capacity[van];
        for (int k = 0; k < round.size(); k++) {
            ok &= d[k][1] <= w.orders.get(round.get(k)).close && d[k][3] <= w.capacity[van];
        }
        return ok && d[round.size()][0] <= w.end[van];
    }

    boolean good(List<List<Integer>> rounds) {
        boolean ok = true;
        for (int v = 0; v < 4; v++) ok &= good(v, rounds.get(v));
        return ok;
    }

    /** Duration, early, late by trying each hour; places with -1 for the depot. */
    int[] hours(int van, List<Integer> places) {
        int first = places.get(0);
        int from = first < 0 ? w.start[van] : w.orders.get(first).open;
        int to = first < 0 ? w.end[van] : w.orders.get(first).close;
        int least = Integer.MAX_VALUE, early = 0, late = 0, latest = -1;
        for (int t = from; t <= to; t++) {
            int time = t, at = first;
            boolean ok = true;
            for (int k = 0; k < places.size() && ok; k++) {
                int p = places.get(k);
                time += far(at, p);
                if (p >= 0) {
                    time = Math.max(time, w.orders.get(p).open);
                    ok = time <= w.orders.get(p).close;
                    time += w.orders.get(p).service;
                } else {
                    ok = time <= w.end[van];
                }
                at = p;
            }
            if (!ok) continue;
            latest = t;
            if (time - t < least) {
                least = time - t;
                early = t;
            }
            if (time - t == least) late = t;
        }
        if (latest != late) throw new IllegalStateException("the document's LATE is two hours");
        return new int[] {least, early, late};
    }

    int tellPiece(int van, List<Integer> places, int what) {
        if (what <= 2) return hours(van, places)[what];
        int ways = 0, down = 0, up = 0;
        for (int k = 1; k < places.size(); k++) ways += far(places.get(k - 1), places.get(k));
        for (int p : places) {
            down += p < 0 ? 0 : w.orders.get(p).down;
            up += p < 0 ? 0 : w.orders.get(p).up;
        }
        int has = down, top = down;
        for (int p : places) {
            has += p < 0 ? 0 : w.orders.get(p).up - w.orders.get(p).down;
            top = Math.max(top, has);
        }
        return what == 3 ? ways : what == 4 ? down : what == 5 ? up : top;
    }

    List<Integer> withDepot(List<Integer> round) {
        List<Integer> all = new ArrayList<>();
        all.add(-1);
        all.addAll(round);
        all.add(-1);
        return all;
    }

    int costOf(int van, List<Integer> round) {
        if (round.isEmpty()) return 0;
        List<Integer> key = new ArrayList<>(round);
        key.add(-1 - van);
        Integer known = costs.get(key);
        if (known != null) return known;
        List<Integer> all = withDepot(round);
        int c = w.prices[2] + w.prices[0] * tellPiece(van, all, 3);
        if (w.prices[1] != 0) c += w.prices[1] * tellPiece(van, all, 0);
        costs.put(key, c);
        return c;
    }

    int costOf(List<List<Integer>> rounds) {
        int c = 0;
        for (int v = 0; v < 4; v++) c += costOf(v, rounds.get(v));
        for (int o = 0; o < w.orders.size(); o++) {
            if (vanOf(rounds, o) < 0) c += w.orders.get(o).penalty;
        }
        return c;
    }

    static int vanOf(List<List<Integer>> rounds, int order) {
        for (int v = 0; v < 4; v++) if (rounds.get(v).contains(order)) return v;
        return -1;
    }

    // ---- helpers

    boolean isOrder(int o) {
        return 0 <= o && o < w.orders.size();
    }

    static boolean isVan(int v) {
        return 0 <= v && v < 4;
    }

    static boolean in(int v, int a, int b) {
        return a <= v && v <= b;
    }

    boolean isLeft(int o) {
        return vanOf(w.rounds, o) < 0;
    }

    /** Everything that costs depend on may be otherwise. */
    void changedData() {
        costs.clear();
    }

    void step(List<List<Integer>> ahead) {
        if (ahead.equals(w.rounds)) return;
        steps.addLast(ahead);
        if (steps.size() > 16) steps.removeFirst();
    }

    // ---- the face: what is told

    public int depot(int x, int y) {
        if (!in(x, 0, 40) || !in(y, 0, 40)) return BAD;
        if (told(2) != 0) return STATE;
        w.dx = x;
        w.dy = y;
        changedData();
        steps.clear();
        return 1;
    }

    public int order(int x, int y, int open, int close, int service) {
        if (!in(x, 0, 40) || !in(y, 0, 40) || !in(open, 0, 600) || !in(close, 0, 600)
                || close < open || !in(service, 0, 60)) return BAD;
        if (w.orders.size() == 12) return FULL;
        Order o = new Order();
        o.x = x;
        o.y = y;
        o.open = open;
        o.close = close;
        o.service = service;
        w.orders.add(o);
        changedData();
        steps.clear();
        return w.orders.size() - 1;
    }

    public int load(int order, int what, int v) {
        if (!isOrder(order) || !in(what, 0, 2)) return NONE;
        if (!in(v, 0, what == 2 ? 9999 : 50)) return BAD;
        if (!isLeft(order)) return STATE;
        Order o = w.orders.get(order);
        int was = what == 0 ? o.down : what == 1 ? o.up : o.penalty;
        if (what == 0) o.down = v;
        if (what == 1) o.up = v;
        if (what == 2) o.penalty = v;
        changedData();
        steps.clear();
        return was;
    }

    public int van(int van, int capacity, int start, int end) {
        if (!isVan(van)) return NONE;
        if (!in(capacity, 0, 200) || !in(start, 0, 999) || !in(end, 0, 999) || end < start) return BAD;
        if (!w.rounds.get(van).isEmpty()) return STATE;
        w.capacity[van] = capacity;
        w.start[van] = start;
        w.end[van] = end;
        changedData();
        steps.clear();
        return 1;
    }

    public int price(int what, int v) {
        if (!in(what, 0, 2)) return NONE;
        if (!in(v, 0, what == 2 ? 999 : 9)) return BAD;
        int was = w.prices[what];
        w.prices[what] = v;
        changedData();
        return was;
    }

    public int feed(int letter) {
        if (!in(letter, 1, 127)) return BAD;
        if (tape.length() == 160) return FULL;
        tape.append((char) letter);
        return tape.length();
    }

    public int clear() {
        int n = tape.length();
        tape.setLength(0);
        return n;
    }

    /**
     * Byte by byte. Fields: 0 x, 1 y, 2 open, 3 close, 4 service, 5 down, 6 up; what may stand behind
     * each is in the table, and where that leads to.
     */
    public int orders() {
        String text = tape.toString();
        tape.setLength(0);
        String[] behind = {",", "@", "-", "/", "du;", "u;", ";"};
        int[] most = {40, 40, 600, 600, 60, 50, 50};
        List<int[]> come = new ArrayList<>();
        int[] now = new int[7];
        int field = 0, i = 0;
        while (true) {
            int from = i, value = 0;
            while (i < text.length() && i - from < 3 && Character.isDigit(text.charAt(i))) {
                value = value * 10 + (text.charAt(i++) - '0');
            }
            if (i == from) return -100 - i;
            if (value > most[field] || field == 3 && value < now[2]) return -100 - from;
            now[field] = value;
            if (i == text.length() && field >= 4) {
                come.add(now);
                break;
            }
            if (i == text.length() || behind[field].indexOf(text.charAt(i)) < 0) return -100 - i;
            char sign = text.charAt(i++);
            if (sign == ';') {
                come.add(now);
                now = new int[7];
                field = 0;
            } else {
                field = sign == 'd' ? 5 : sign == 'u' ? 6 : field + 1;
            }
        }
        if (come.size() + w.orders.size() > 12) return FULL;
        for (int[] c : come) {
            int o = order(c[0], c[1], c[2], c[3], c[4]);
            w.orders.get(o).down = c[5];
            w.orders.get(o).up = c[6];
        }
        changedData();
        return come.size();
    }

    public int plan() {
        String text = tape.toString();
        tape.setLength(0);
        List<List<Integer>> r = none();
        int van = -1, i = 0;
        boolean wantsVan = true;
        if (text.isEmpty()) return -100;
        while (true) {
            int from = i, value = 0, figures = wantsVan ? 1 : 2;
            while (i < text.length() && i - from < figures && Character.isDigit(text.charAt(i))) {
                value = value * 10 + (text.charAt(i++) - '0');
            }
            if (i == from) return -100 - i;
            if (wantsVan ? value <= van || value > 3 : !isOrder(value) || vanOf(r, value) >= 0) {
                return -100 - from;
            }
            if (wantsVan) van = value;
            else r.get(van).add(value);
            if (i == text.length() && !wantsVan) break;
            String may = wantsVan ? ":" : ",;";
            if (i == text.length() || may.indexOf(text.charAt(i)) < 0) return -100 - i;
            wantsVan = text.charAt(i++) == ';';
        }
        if (!good(r)) return NOT;
        w.rounds = r;
        steps.clear();
        int n = 0;
        for (List<Integer> one : r) n += one.size();
        return n;
    }

    public int spell() {
        List<String> parts = new ArrayList<>();
        for (int v = 0; v < 4; v++) {
            List<String> numbers = new ArrayList<>();
            for (int o : w.rounds.get(v)) numbers.add("" + o);
            if (!numbers.isEmpty()) parts.add(v + ":" + String.join(",", numbers));
        }
        paper = String.join(";", parts);
        return paper.length();
    }

    public int paper(int i) {
        return in(i, 0, paper.length() - 1) ? paper.charAt(i) : NONE;
    }

    public int way(int a, int b) {
        return (a == -1 || isOrder(a)) && (b == -1 || isOrder(b)) ? far(a, b) : NONE;
    }

    public int of(int order, int what) {
        if (!isOrder(order) || !in(what, 0, 9)) return NONE;
        Order o = w.orders.get(order);
        int v = vanOf(w.rounds, order);
        return new int[] {o.x, o.y, o.open, o.close, o.service, o.down, o.up, o.penalty,
            v < 0 ? LACK : v, v < 0 ? LACK : w.rounds.get(v).indexOf(order)}[what];
    }

    // ---- rounds, driven and by pieces

    public int stops(int van) {
        return isVan(van) ? w.rounds.get(van).size() : NONE;
    }

    public int stop(int van, int k) {
        return isVan(van) && in(k, 0, stops(van) - 1) ? w.rounds.get(van).get(k) : NONE;
    }

    public int driven(int van, int k, int what) {
        if (!isVan(van) || !in(k, 0, stops(van)) || !in(what, 0, 4)) return NONE;
        int[] d = drive(van, w.rounds.get(van))[k];
        return new int[] {d[0], d[1] - d[0], d[1], d[2], d[3]}[what];
    }

    /** The latest hour of all, by trying: the rest is driven from there. */
    public int latest(int van, int k) {
        if (!isVan(van) || !in(k, 0, stops(van))) return NONE;
        List<Integer> rest = new ArrayList<>(w.rounds.get(van).subList(k, stops(van)));
        rest.add(-1);
        for (int t = 999; t >= 0; t--) {
            int time = t, at = rest.get(0);
            boolean ok = true;
            for (int i = 0; i < rest.size() && ok; i++) {
                int p = rest.get(i);
                time += far(at, p);
                if (p >= 0 && i > 0) time = Math.max(time, w.orders.get(p).open);
                ok = time <= (p >= 0 ? w.orders.get(p).close : w.end[van]);
                if (p >= 0) time += w.orders.get(p).service;
                at = p;
            }
            if (ok) return t;
        }
        throw new IllegalStateException("a round that isn't good");
    }

    public int slack(int van, int k) {
        int late = latest(van, k);
        return late < 0 ? late : late - driven(van, k, 2);
    }

    public int piece(int van, int i, int j, int what) {
        if (!isVan(van) || !in(i, 0, stops(van) - 1) || !in(j, i, stops(van) - 1) || !in(what, 0, 6)) {
            return NONE;
        }
        return tellPiece(van, w.rounds.get(van).subList(i, j + 1), what);
    }

    public int whole(int van, int what) {
        if (!isVan(van) || !in(what, 0, 6)) return NONE;
        return tellPiece(van, withDepot(w.rounds.get(van)), what);
    }

    public int cost(int van) {
        if (van == -1) return costOf(w.rounds);
        return isVan(van) ? costOf(van, w.rounds.get(van)) : NONE;
    }

    public int left() {
        int bits = 0;
        for (int o = 0; o < w.orders.size(); o++) if (isLeft(o)) bits += 1 << o;
        return bits;
    }

    // ---- orders in and out, moves

    /** Null: not good. */
    List<List<Integer>> with(int order, int van, int k) {
        List<List<Integer>> r = copyOf(w.rounds);
        r.get(van).add(k, order);
        return good(r) ? r : null;
    }

    public int put(int order, int van, int k) {
        if (!isOrder(order) || !isVan(van) || !in(k, 0, stops(van))) return NONE;
        if (!isLeft(order)) return STATE;
        List<List<Integer>> r = with(order, van, k), ahead = w.rounds;
        if (r == null) return NOT;
        w.rounds = r;
        step(ahead);
        return 1;
    }

    public long would(int order, int van, int k) {
        if (!isOrder(order) || !isVan(van) || !in(k, 0, stops(van)) || !isLeft(order)) return NO;
        List<List<Integer>> r = with(order, van, k);
        return r == null ? NO : costOf(van, r.get(van)) - cost(van);
    }

    public int take(int order) {
        if (!isOrder(order)) return NONE;
        if (isLeft(order)) return STATE;
        List<List<Integer>> ahead = copyOf(w.rounds);
        int v = vanOf(w.rounds, order);
        w.rounds.get(v).remove((Integer) order);
        if (!good(w.rounds)) throw new IllegalStateException("taking one out made a round bad");
        step(ahead);
        return v;
    }

    /** What the move makes of the rounds, good or not; null: no such numbers. */
    List<List<Integer>> after(int kind, int a, int b, int c) {
        List<List<Integer>> r = copyOf(w.rounds);
        if (kind == 0) {
            if (!isOrder(a) || isLeft(a) || !isVan(b)) return null;
            r.get(vanOf(r, a)).remove((Integer) a);
            if (!in(c, 0, r.get(b).size())) return null;
            r.get(b).add(c, a);
            return r;
        }
        if (kind == 1) {
            if (!isOrder(a) || !isOrder(b) || a >= b || isLeft(a) || isLeft(b) || c != 0) return null;
            for (List<Integer> one : r) one.replaceAll(o -> o == a ? (Integer) b : o == b ? (Integer) a : o);
            return r;
        }
        if (kind == 2) {
            if (!isVan(a) || !isVan(b) || a >= b || c < 0) return null;
            int i = c & 15, j = c >> 4;
            List<Integer> one = w.rounds.get(a), other = w.rounds.get(b);
            if (i > one.size() || j > other.size()) return null;
            r.get(a).clear();
            r.get(a).addAll(one.subList(0, i));
            r.get(a).addAll(other.subList(j, other.size()));
            r.get(b).clear();
            r.get(b).addAll(other.subList(0, j));
            r.get(b).addAll(one.subList(i, one.size()));
            return r;
        }
        if (kind == 3) {
            if (!isVan(a) || b < 0 || b >= c || c >= stops(a)) return null;
            java.util.Collections.reverse(r.get(a).subList(b, c + 1));
            return r;
        }
        return null;
    }

    public int may(int kind, int a, int b, int c) {
        List<List<Integer>> r = after(kind, a, b, c);
        return r == null ? NONE : !r.equals(w.rounds) && good(r) ? 1 : 0;
    }

    public long gain(int kind, int a, int b, int c) {
        return may(kind, a, b, c) == 1 ? cost(-1) - costOf(after(kind, a, b, c)) : NO;
    }

    public int move(int kind, int a, int b, int c) {
        List<List<Integer>> r = after(kind, a, b, c), ahead = w.rounds;
        if (r == null) return NONE;
        if (r.equals(ahead)) return STATE;
        if (!good(r)) return NOT;
        w.rounds = r;
        step(ahead);
        return 1;
    }

    /** All numbers that a move may have, by a, then b, then c. */
    List<int[]> movesThatMay(int kind) {
        List<int[]> all = new ArrayList<>();
        for (int a = 0; a < 12; a++) {
            for (int b = 0; b < 12; b++) {
                for (int c = 0; c < (kind == 2 ? 210 : 13); c++) {
                    if (may(kind, a, b, c) == 1) all.add(new int[] {a, b, c});
                }
            }
        }
        return all;
    }

    /** Null: there is none. */
    int[] bestOf(int kind) {
        int[] best = null;
        int now = cost(-1), least = now;
        for (int[] m : movesThatMay(kind)) {
            int then = costOf(after(kind, m[0], m[1], m[2]));
            if (then < least) {
                least = then;
                best = new int[] {m[0], m[1], m[2], now - then};
            }
        }
        return best;
    }

    public int best(int kind, int what) {
        if (!in(kind, 0, 3) || !in(what, 0, 3)) return NONE;
        int[] best = bestOf(kind);
        return best == null ? LACK : best[what];
    }

    int descend(int n) {
        for (int done = 0; done < n; done++) {
            int[] best = null;
            int kind = -1;
            while (best == null && ++kind < 4) best = bestOf(kind);
            if (best == null) return done;
            w.rounds = after(kind, best[0], best[1], best[2]);
        }
        return n;
    }

    public int descent(int n) {
        if (!in(n, 1, 40)) return BAD;
        List<List<Integer>> ahead = copyOf(w.rounds);
        int done = descend(n);
        step(ahead);
        return done;
    }

    public int many(int kind) {
        return in(kind, 0, 3) ? movesThatMay(kind).size() : NONE;
    }

    // ---- regrets, ruins

    /** Price and place; null: never. */
    int[] priceOf(int order, int van) {
        int[] best = null;
        for (int k = 0; k <= stops(van); k++) {
            long more = would(order, van, k);
            if (more != NO && (best == null || more < best[0])) best = new int[] {(int) more, k};
        }
        return best;
    }

    public int priced(int order, int van) {
        if (!isOrder(order) || !isVan(van)) return NONE;
        if (!isLeft(order)) return STATE;
        int[] p = priceOf(order, van);
        return p == null ? LACK : p[0];
    }

    public int placed(int order, int van) {
        if (!isOrder(order) || !isVan(van)) return NONE;
        if (!isLeft(order)) return STATE;
        int[] p = priceOf(order, van);
        return p == null ? LACK : p[1];
    }

    int regretOf(int order, int k) {
        List<Integer> prices = new ArrayList<>();
        for (int v = 0; v < 4; v++) {
            int[] p = priceOf(order, v);
            prices.add(p == null ? 100000 : p[0]);
        }
        java.util.Collections.sort(prices);
        int sum = 0;
        for (int i = 1; i < k; i++) sum += prices.get(i) - prices.get(0);
        return sum;
    }

    public int regret(int order, int k) {
        if (!isOrder(order)) return NONE;
        if (!in(k, 1, 4)) return BAD;
        if (!isLeft(order)) return STATE;
        return regretOf(order, k);
    }

    /** Sorted by: regret (most first), price, order, van; then the place. Null: none. */
    int[] comesFirst(int k) {
        List<int[]> all = new ArrayList<>();
        for (int o = 0; o < w.orders.size(); o++) {
            for (int v = 0; v < 4 && isLeft(o); v++) {
                int[] p = priceOf(o, v);
                if (p != null) all.add(new int[] {-regretOf(o, k), p[0], o, v, p[1]});
            }
        }
        all.sort(Arrays::compare);
        return all.isEmpty() ? null : all.get(0);
    }

    public int first(int k) {
        if (!in(k, 1, 4)) return BAD;
        int[] f = comesFirst(k);
        return f == null ? LACK : f[2];
    }

    int fillBy(int k) {
        int came = 0;
        for (int[] f = comesFirst(k); f != null; f = comesFirst(k)) {
            w.rounds.get(f[3]).add(f[4], f[2]);
            came++;
        }
        return came;
    }

    public int fill(int k) {
        if (!in(k, 1, 4)) return BAD;
        List<List<Integer>> ahead = copyOf(w.rounds);
        int came = fillBy(k);
        step(ahead);
        return came;
    }

    int ruinAround(int order, int n) {
        TreeSet<Integer> near = new TreeSet<>();
        for (int o = 0; o < w.orders.size(); o++) if (!isLeft(o)) near.add(far(order, o) * 100 + o);
        int taken = 0;
        for (int key : near) {
            if (taken == n) break;
            for (List<Integer> one : w.rounds) one.remove((Integer) (key % 100));
            taken++;
        }
        return taken;
    }

    public int ruin(int order, int n) {
        if (!isOrder(order)) return NONE;
        if (!in(n, 1, 12)) return BAD;
        List<List<Integer>> ahead = copyOf(w.rounds);
        int taken = ruinAround(order, n);
        step(ahead);
        return taken;
    }

    public int again(int order, int n, int k) {
        if (!isOrder(order)) return NONE;
        if (!in(n, 1, 12) || !in(k, 1, 4)) return BAD;
        List<List<Integer>> ahead = copyOf(w.rounds);
        int was = cost(-1);
        ruinAround(order, n);
        fillBy(k);
        descend(40);
        int less = was - cost(-1);
        if (less <= 0) w.rounds = copyOf(ahead);
        step(ahead);
        return Math.max(less, 0);
    }

    public int back() {
        if (steps.isEmpty()) return STATE;
        w.rounds = steps.removeLast();
        return steps.size();
    }

    public int told(int what) {
        if (in(what, 20, 23)) return w.capacity[what - 20];
        if (in(what, 24, 27)) return w.start[what - 24];
        if (in(what, 28, 31)) return w.end[what - 28];
        if (!in(what, 0, 10)) return NONE;
        int bits = 0;
        for (int v = 0; v < 4; v++) if (!w.rounds.get(v).isEmpty()) bits += 1 << v;
        return new int[] {w.orders.size(), Integer.bitCount(left()), bits, steps.size(), tape.length(),
            paper.length(), w.prices[0], w.prices[1], w.prices[2], w.dx, w.dy}[what];
    }

    // ---- rows, the image

    public int row(int row, int n) {
        if (!in(row, 0, 3)) return NONE;
        if (n > 40) return BAD;
        if (n < 0) return BELOW;
        rows[row] = new int[n];
        return 1;
    }

    public int set(int row, int i, int v) {
        if (!in(row, 0, 3)) return NONE;
        if (rows[row] == null) return NOTHING;
        if (!in(i, 0, rows[row].length - 1)) return BEYOND;
        rows[row][i] = v;
        return 1;
    }

    public long get(int row, int i) {
        if (!in(row, 0, 3) || rows[row] == null || !in(i, 0, rows[row].length - 1)) return NO;
        return rows[row][i];
    }

    public int lay(int row, int i) {
        if (!in(row, 0, 3)) return NONE;
        if (rows[row] == null) return NOTHING;
        if (i < 0) return BEYOND;
        List<Integer> ints = new ArrayList<>();
        for (List<Integer> one : w.rounds) {
            ints.addAll(one);
            ints.add(-1);
        }
        for (int k = 0; k < ints.size(); k++) {
            if ((long) i + k >= rows[row].length) return BEYOND;
            rows[row][i + k] = ints.get(k);
        }
        return ints.size();
    }

    public int judge(int row, int i) {
        if (!in(row, 0, 3)) return NONE;
        if (rows[row] == null || i < 0) return STATE;
        List<Integer> told = new ArrayList<>();
        int ends = 0;
        for (int k = i; k < rows[row].length && ends < 4; k++) {
            told.add(rows[row][k]);
            if (rows[row][k] == -1) ends++;
        }
        if (ends < 4) return STATE;
        List<List<Integer>> r = none();
        int v = 0;
        for (int o : told) {
            if (o == -1) {
                v++;
            } else if (!isOrder(o) || vanOf(r, o) >= 0) {
                return BAD;
            } else {
                r.get(v).add(o);
            }
        }
        return good(r) ? costOf(r) : NOT;
    }

    public int image() {
        image = w.copy();
        return w.orders.size();
    }

    public int undo() {
        if (image == null) return STATE;
        w = image.copy();
        changedData();
        steps.clear();
        return w.orders.size();
    }
}
