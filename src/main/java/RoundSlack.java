/**
 * Vans that go their rounds by hours. What each call does is told in ../shared/DOC.md; words in
 * capitals are the words of that document.
 */
public final class RoundSlack {
    public static final int NONE = -1, BAD = -2, STATE = -3, FULL = -4, NOT = -7;
    public static final long NO = Long.MIN_VALUE;

    private static final int LACKING = -5, NOTHING = -11, BEYOND = -13, BELOW = -14, FAULTY = -100;
    private static final int VANS = 4, MOST_ORDERS = 12, MOST_STEPS = 16, MOST_DONE = 40;
    /** The depot is one place more, behind those of the orders. */
    private static final int DEPOT = MOST_ORDERS, PLACES = MOST_ORDERS + 1;
    private static final int MOST_PLACE = 40, MOST_HOUR = 600, MOST_SERVICE = 60, MOST_LOAD = 50;
    private static final int MOST_PENALTY = 9999, MOST_CAPACITY = 200, MOST_DAY = 999;
    private static final int MOST_PRICE = 9, MOST_FIXED = 999, MOST_REGRET = 4;
    private static final int ROWS = 4, MOST_ROW = 40, MOST_TAPE = 160, MOST_PAPER = 64;
    /** 160 bytes have room for 16 orders of 9 bytes, a sign behind each, and one begun behind that. */
    private static final int MOST_PARTS = 17;
    private static final int SHIFT = 0, SWAP = 1, CROSS = 2, TURN = 3, KINDS = 4;
    private static final int DRIVE = 0, DURATION = 1, FIXED = 2;
    private static final int NOT_GOOD = -1, NEVER = 100000;

    private final Book book = new Book();
    private final Fleet fleet = new Fleet();
    private final Rounds rounds = new Rounds();
    private final Book bookOfImage = new Book();
    private final Fleet fleetOfImage = new Fleet();
    private final Rounds roundsOfImage = new Rounds();
    private boolean imageTaken = false;
    /** ROUNDS that are only thought of: a text's, a row's, those ahead of a step. */
    private final Rounds aside = new Rounds();
    private final Steps steps = new Steps();
    private final Piece part = new Piece(book);
    private final Judge referee = new Judge(book, fleet, part);
    private final Drive drive = new Drive(book, fleet);
    private final Moves moves = new Moves(rounds, referee);
    private final Filling filling = new Filling(book, rounds, referee);
    private final Text tape = new Text(MOST_TAPE);
    private final Text sheet = new Text(MOST_PAPER);
    private final Reader reader = new Reader(tape);
    private final int[][] rowInts = new int[ROWS][MOST_ROW];
    private final int[] rowSize = new int[ROWS];

    public RoundSlack() {
        for (int i = 0; i < ROWS; i++) {
            rowSize[i] = NOTHING;
        }
    }

    // ---- what is told

    public int depot(int x, int y) {
        if (!within(x, 0, MOST_PLACE) || !within(y, 0, MOST_PLACE)) {
            return BAD;
        }
        if (rounds.stopsInAll() > 0) {
            return STATE;
        }
        book.placeAt(DEPOT, x, y);
        steps.forget();
        return 1;
    }

    public int order(int x, int y, int open, int close, int service) {
        if (!within(x, 0, MOST_PLACE) || !within(y, 0, MOST_PLACE) || !within(open, 0, MOST_HOUR)
                || !within(close, open, MOST_HOUR) || !within(service, 0, MOST_SERVICE)) {
            return BAD;
        }
        if (book.count >= MOST_ORDERS) {
            return FULL;
        }
        steps.forget();
        return book.enter(x, y, open, close, service);
    }

    public int load(int order, int what, int v) {
        if (!isOrder(order) || !within(what, 0, 2)) {
            return NONE;
        }
        if (!within(v, 0, what == 2 ? MOST_PENALTY : MOST_LOAD)) {
            return BAD;
        }
        if (rounds.vanOf(order) != NONE) {
            return STATE;
        }
        int[] row = what == 0 ? book.down : what == 1 ? book.up : book.penalty;
        int was = row[order];
        row[order] = v;
        steps.forget();
        return was;
    }

    public int van(int van, int capacity, int start, int end) {
        if (!isVan(van)) {
            return NONE;
        }
        if (!within(capacity, 0, MOST_CAPACITY) || !within(start, 0, MOST_DAY)
                || !within(end, start, MOST_DAY)) {
            return BAD;
        }
        if (rounds.size[van] > 0) {
            return STATE;
        }
        fleet.capacity[van] = capacity;
        fleet.start[van] = start;
        fleet.end[van] = end;
        steps.forget();
        return 1;
    }

    public int price(int what, int v) {
        if (!within(what, DRIVE, FIXED)) {
            return NONE;
        }
        if (!within(v, 0, what == FIXED ? MOST_FIXED : MOST_PRICE)) {
            return BAD;
        }
        int was = fleet.prices[what];
        fleet.prices[what] = v;
        return was;
    }

    public int feed(int letter) {
        if (!within(letter, 1, 127)) {
            return BAD;
        }
        return tape.add(letter) ? tape.length : FULL;
    }

    public int clear() {
        int had = tape.length;
        tape.length = 0;
        return had;
    }

    public int orders() {
        int parts = reader.readOrders();
        tape.length = 0;
        if (parts < 0) {
            return parts;
        }
        if (book.count + parts > MOST_ORDERS) {
            return FULL;
        }
        for (int i = 0; i < parts && i < MOST_PARTS; i++) {
            int[] told = reader.parts[i];
            int number = book.enter(told[0], told[1], told[2], told[3], told[4]);
            if (number != NONE) {
                book.down[number] = told[5];
                book.up[number] = told[6];
            }
        }
        steps.forget();
        return parts;
    }

    public int plan() {
        int stops = reader.readPlan(aside, book.count);
        tape.length = 0;
        if (stops < 0) {
            return stops;
        }
        if (referee.costOfAll(aside) == NOT_GOOD) {
            return NOT;
        }
        rounds.copyFrom(aside);
        steps.forget();
        return stops;
    }

    public int spell() {
        sheet.length = 0;
        for (int van = 0; van < VANS; van++) {
            int size = rounds.size[van];
            if (size > 0 && sheet.length > 0) {
                sheet.add(';');
            }
            for (int k = 0; k < size; k++) {
                if (k == 0) {
                    sheet.addNumber(van);
                }
                sheet.add(k == 0 ? ':' : ',');
                sheet.addNumber(rounds.stop[van][k]);
            }
        }
        return sheet.length;
    }

    public int paper(int i) {
        return sheet.at(i);
    }

    public int way(int a, int b) {
        if (a != NONE && !isOrder(a) || b != NONE && !isOrder(b)) {
            return NONE;
        }
        return book.ways[a == NONE ? DEPOT : a][b == NONE ? DEPOT : b];
    }

    public int of(int order, int what) {
        if (!isOrder(order)) {
            return NONE;
        }
        switch (what) {
            case 0: return book.x[order];
            case 1: return book.y[order];
            case 2: return book.open[order];
            case 3: return book.close[order];
            case 4: return book.service[order];
            case 5: return book.down[order];
            case 6: return book.up[order];
            case 7: return book.penalty[order];
            case 8: return orLacking(rounds.vanOf(order));
            case 9: return orLacking(rounds.placeOf(order));
            default: return NONE;
        }
    }

    // ---- rounds, driven and by pieces

    public int stops(int van) {
        return isVan(van) ? rounds.size[van] : NONE;
    }

    public int stop(int van, int k) {
        if (!isVan(van) || !within(k, 0, rounds.size[van] - 1)) {
            return NONE;
        }
        return rounds.stop[van][k];
    }

    public int driven(int van, int k, int what) {
        if (!isStopOrReturn(van, k) || !within(what, 0, 4)) {
            return NONE;
        }
        drive.driveTo(rounds, van, k);
        switch (what) {
            case 0: return drive.comes;
            case 1: return drive.begins - drive.comes;
            case 2: return drive.begins;
            case 3: return drive.leaves;
            default: return drive.aboard;
        }
    }

    public int latest(int van, int k) {
        return isStopOrReturn(van, k) ? drive.latestAt(rounds, van, k) : NONE;
    }

    public int slack(int van, int k) {
        if (!isStopOrReturn(van, k)) {
            return NONE;
        }
        drive.driveTo(rounds, van, k);
        return drive.latestAt(rounds, van, k) - drive.begins;
    }

    public int piece(int van, int i, int j, int what) {
        if (!isVan(van) || i < 0 || j < i || j >= rounds.size[van] || !within(what, 0, 6)) {
            return NONE;
        }
        int[] stop = rounds.stop[van];
        part.beginAt(stop[i], book.open[stop[i]], book.close[stop[i]]);
        for (int k = i + 1; k <= j; k++) {
            part.goOn(stop[k], book.close[stop[k]]);
        }
        return part.tell(what);
    }

    public int whole(int van, int what) {
        if (!isVan(van) || !within(what, 0, 6)) {
            return NONE;
        }
        referee.goRound(rounds, van, NONE, NONE);
        return part.tell(what);
    }

    public int cost(int van) {
        if (van == NONE) {
            return referee.costOfAll(rounds);
        }
        return isVan(van) ? referee.costOf(rounds, van) : NONE;
    }

    public int left() {
        return (1 << book.count) - 1 & ~rounds.bits();
    }

    // ---- orders in and out, moves

    public int put(int order, int van, int k) {
        if (!isOrder(order) || !isVan(van) || !within(k, 0, rounds.size[van])) {
            return NONE;
        }
        if (rounds.vanOf(order) != NONE) {
            return STATE;
        }
        if (referee.costWith(rounds, van, order, k) == NOT_GOOD) {
            return NOT;
        }
        steps.keep(rounds);
        rounds.insert(order, van, k);
        return 1;
    }

    public long would(int order, int van, int k) {
        if (!isOrder(order) || !isVan(van) || !within(k, 0, rounds.size[van])
                || rounds.vanOf(order) != NONE) {
            return NO;
        }
        int then = referee.costWith(rounds, van, order, k);
        return then == NOT_GOOD ? NO : then - referee.costOf(rounds, van);
    }

    public int take(int order) {
        if (!isOrder(order)) {
            return NONE;
        }
        int van = rounds.vanOf(order);
        if (van == NONE) {
            return STATE;
        }
        steps.keep(rounds);
        rounds.remove(order);
        return van;
    }

    public int may(int kind, int a, int b, int c) {
        if (!moves.isMove(kind, a, b, c)) {
            return NONE;
        }
        moves.weighNow();
        return moves.weigh(kind, a, b, c) == 1 ? 1 : 0;
    }

    public long gain(int kind, int a, int b, int c) {
        if (!moves.isMove(kind, a, b, c)) {
            return NO;
        }
        moves.weighNow();
        return moves.weigh(kind, a, b, c) == 1 ? moves.gained : NO;
    }

    public int move(int kind, int a, int b, int c) {
        if (!moves.isMove(kind, a, b, c)) {
            return NONE;
        }
        moves.weighNow();
        int answer = moves.weigh(kind, a, b, c);
        if (answer == 1) {
            steps.keep(rounds);
            rounds.copyFrom(moves.then);
        }
        return answer;
    }

    public int best(int kind, int what) {
        if (!within(kind, 0, KINDS - 1) || !within(what, 0, 3)) {
            return NONE;
        }
        moves.scan(kind);
        if (moves.bestGain == 0) {
            return LACKING;
        }
        switch (what) {
            case 0: return moves.bestA;
            case 1: return moves.bestB;
            case 2: return moves.bestC;
            default: return moves.bestGain;
        }
    }

    public int descent(int n) {
        if (!within(n, 1, MOST_DONE)) {
            return BAD;
        }
        aside.copyFrom(rounds);
        int done = moves.descend(n);
        if (done > 0) {
            steps.keep(aside);
        }
        return done;
    }

    public int many(int kind) {
        if (!within(kind, 0, KINDS - 1)) {
            return NONE;
        }
        moves.scan(kind);
        return moves.fit;
    }

    // ---- regrets, ruins

    public int priced(int order, int van) {
        if (!isOrder(order) || !isVan(van)) {
            return NONE;
        }
        if (rounds.vanOf(order) != NONE) {
            return STATE;
        }
        filling.weigh(order);
        return filling.least[van] == NEVER ? LACKING : filling.least[van];
    }

    public int placed(int order, int van) {
        if (!isOrder(order) || !isVan(van)) {
            return NONE;
        }
        if (rounds.vanOf(order) != NONE) {
            return STATE;
        }
        filling.weigh(order);
        return orLacking(filling.place[van]);
    }

    public int regret(int order, int k) {
        if (!isOrder(order)) {
            return NONE;
        }
        if (!within(k, 1, MOST_REGRET)) {
            return BAD;
        }
        if (rounds.vanOf(order) != NONE) {
            return STATE;
        }
        filling.weigh(order);
        return filling.regretBy(k);
    }

    public int first(int k) {
        if (!within(k, 1, MOST_REGRET)) {
            return BAD;
        }
        filling.choose(k);
        return orLacking(filling.chosen);
    }

    public int fill(int k) {
        if (!within(k, 1, MOST_REGRET)) {
            return BAD;
        }
        aside.copyFrom(rounds);
        int came = filling.fillBy(k);
        if (came > 0) {
            steps.keep(aside);
        }
        return came;
    }

    public int ruin(int order, int n) {
        if (!isOrder(order)) {
            return NONE;
        }
        if (!within(n, 1, MOST_ORDERS)) {
            return BAD;
        }
        aside.copyFrom(rounds);
        int taken = filling.ruinAround(order, n);
        if (taken > 0) {
            steps.keep(aside);
        }
        return taken;
    }

    public int again(int order, int n, int k) {
        if (!isOrder(order)) {
            return NONE;
        }
        if (!within(n, 1, MOST_ORDERS) || !within(k, 1, MOST_REGRET)) {
            return BAD;
        }
        aside.copyFrom(rounds);
        int ahead = referee.costOfAll(rounds);
        filling.ruinAround(order, n);
        filling.fillBy(k);
        moves.descend(MOST_DONE);
        int less = ahead - referee.costOfAll(rounds);
        if (less <= 0) {
            rounds.copyFrom(aside);
            return 0;
        }
        steps.keep(aside);
        return less;
    }

    public int back() {
        return steps.takeBack(rounds) ? steps.count : STATE;
    }

    public int told(int what) {
        if (within(what, 20, 23)) {
            return fleet.capacity[what - 20];
        }
        if (within(what, 24, 27)) {
            return fleet.start[what - 24];
        }
        if (within(what, 28, 31)) {
            return fleet.end[what - 28];
        }
        switch (what) {
            case 0: return book.count;
            case 1: return book.count - rounds.stopsInAll();
            case 2: return rounds.vanBits();
            case 3: return steps.count;
            case 4: return tape.length;
            case 5: return sheet.length;
            case 6: return fleet.prices[DRIVE];
            case 7: return fleet.prices[DURATION];
            case 8: return fleet.prices[FIXED];
            case 9: return book.x[DEPOT];
            case 10: return book.y[DEPOT];
            default: return NONE;
        }
    }

    // ---- rows, the image

    public int row(int row, int n) {
        if (!isRow(row)) {
            return NONE;
        }
        if (n > MOST_ROW) {
            return BAD;
        }
        if (n < 0) {
            return BELOW;
        }
        rowSize[row] = n;
        for (int i = 0; i < n; i++) {
            rowInts[row][i] = 0;
        }
        return 1;
    }

    public int set(int row, int i, int v) {
        if (!isRow(row)) {
            return NONE;
        }
        if (rowSize[row] == NOTHING) {
            return NOTHING;
        }
        if (!within(i, 0, rowSize[row] - 1)) {
            return BEYOND;
        }
        rowInts[row][i] = v;
        return 1;
    }

    public long get(int row, int i) {
        if (!isRow(row) || !within(i, 0, rowSize[row] - 1)) {
            return NO;
        }
        return rowInts[row][i];
    }

    public int lay(int row, int i) {
        if (!isRow(row)) {
            return NONE;
        }
        if (rowSize[row] == NOTHING) {
            return NOTHING;
        }
        if (!within(i, 0, rowSize[row] - 1)) {
            return BEYOND;
        }
        int at = i;
        for (int van = 0; van < VANS; van++) {
            for (int k = 0; k <= rounds.size[van]; k++) {
                if (at >= rowSize[row]) {
                    return BEYOND;
                }
                rowInts[row][at] = k < rounds.size[van] ? rounds.stop[van][k] : -1;
                at++;
            }
        }
        return at - i;
    }

    public int judge(int row, int i) {
        if (!isRow(row)) {
            return NONE;
        }
        if (i < 0 || !endsFourTimes(row, i)) {
            return STATE;
        }
        if (!thinkOfRow(row, i)) {
            return BAD;
        }
        int cost = referee.costOfAll(aside);
        return cost == NOT_GOOD ? NOT : cost;
    }

    public int image() {
        bookOfImage.copyFrom(book);
        fleetOfImage.copyFrom(fleet);
        roundsOfImage.copyFrom(rounds);
        imageTaken = true;
        return book.count;
    }

    public int undo() {
        if (!imageTaken) {
            return STATE;
        }
        book.copyFrom(bookOfImage);
        fleet.copyFrom(fleetOfImage);
        rounds.copyFrom(roundsOfImage);
        steps.forget();
        return book.count;
    }

    // ---- what the calls above share

    private static boolean within(int v, int least, int most) {
        return v >= least && v <= most;
    }

    private static int orLacking(int number) {
        return number == NONE ? LACKING : number;
    }

    private static boolean isVan(int van) {
        return van >= 0 && van < VANS;
    }

    private static boolean isRow(int row) {
        return row >= 0 && row < ROWS;
    }

    private boolean isOrder(int order) {
        return order >= 0 && order < book.count;
    }

    /** Behind the last STOP there is the depot, as the van is back. */
    private boolean isStopOrReturn(int van, int k) {
        return isVan(van) && within(k, 0, rounds.size[van]);
    }

    private boolean endsFourTimes(int row, int from) {
        int ends = 0;
        for (int i = from; i < rowSize[row]; i++) {
            if (rowInts[row][i] == -1) {
                ends++;
            }
        }
        return ends >= VANS;
    }

    /** The TOLD PLAN comes to the ROUNDS aside; false: an ORDER isn't there, or is told twice. */
    private boolean thinkOfRow(int row, int from) {
        aside.clearAll();
        int van = 0;
        for (int i = from; i < rowSize[row] && van < VANS; i++) {
            int order = rowInts[row][i];
            if (order == -1) {
                van++;
            } else if (!isOrder(order) || aside.vanOf(order) != NONE) {
                return false;
            } else {
                aside.insert(order, van, aside.size[van]);
            }
        }
        return true;
    }

    /** THE DEPOT and the ORDERS: what is told of them. The depot's hours are those of a van. */
    private static final class Book {
        int count = 0;
        final int[] x = new int[PLACES];
        final int[] y = new int[PLACES];
        final int[] open = new int[PLACES];
        final int[] close = new int[PLACES];
        final int[] service = new int[PLACES];
        final int[] down = new int[PLACES];
        final int[] up = new int[PLACES];
        final int[] penalty = new int[PLACES];
        /** Kept, for moves are weighed by many thousands of ways. */
        final int[][] ways = new int[PLACES][PLACES];

        void placeAt(int place, int atX, int atY) {
            x[place] = atX;
            y[place] = atY;
            for (int other = 0; other < PLACES; other++) {
                int far = Math.abs(atX - x[other]) + Math.abs(atY - y[other]);
                ways[place][other] = far;
                ways[other][place] = far;
            }
        }

        /** The caller has looked that there is room. */
        int enter(int atX, int atY, int from, int to, int stay) {
            if (count >= MOST_ORDERS) {
                return NONE;
            }
            int number = count;
            count++;
            placeAt(number, atX, atY);
            open[number] = from;
            close[number] = to;
            service[number] = stay;
            down[number] = 0;
            up[number] = 0;
            penalty[number] = 500;
            return number;
        }

        void copyFrom(Book other) {
            count = other.count;
            System.arraycopy(other.x, 0, x, 0, PLACES);
            System.arraycopy(other.y, 0, y, 0, PLACES);
            System.arraycopy(other.open, 0, open, 0, PLACES);
            System.arraycopy(other.close, 0, close, 0, PLACES);
            System.arraycopy(other.service, 0, service, 0, PLACES);
            System.arraycopy(other.down, 0, down, 0, PLACES);
            System.arraycopy(other.up, 0, up, 0, PLACES);
            System.arraycopy(other.penalty, 0, penalty, 0, PLACES);
            for (int i = 0; i < PLACES; i++) {
                System.arraycopy(other.ways[i], 0, ways[i], 0, PLACES);
            }
        }
    }

    /** The VANS' CAPACITIES and DAYS, and what is paid for driving. */
    private static final class Fleet {
        final int[] capacity = {100, 100, 100, 100};
        final int[] start = {0, 0, 0, 0};
        final int[] end = {600, 600, 600, 600};
        /** Of DRIVE, of DURATION, FIXED. */
        final int[] prices = {1, 0, 0};

        void copyFrom(Fleet other) {
            System.arraycopy(other.capacity, 0, capacity, 0, VANS);
            System.arraycopy(other.start, 0, start, 0, VANS);
            System.arraycopy(other.end, 0, end, 0, VANS);
            System.arraycopy(other.prices, 0, prices, 0, 3);
        }
    }

    /** A ROUND for each VAN; each ORDER stands in one at most, so none has more than all of them. */
    private static final class Rounds {
        final int[] size = new int[VANS];
        final int[][] stop = new int[VANS][MOST_ORDERS];

        void copyFrom(Rounds other) {
            for (int van = 0; van < VANS; van++) {
                size[van] = other.size[van];
                System.arraycopy(other.stop[van], 0, stop[van], 0, size[van]);
            }
        }

        void clearAll() {
            for (int van = 0; van < VANS; van++) {
                size[van] = 0;
            }
        }

        int stopsInAll() {
            return size[0] + size[1] + size[2] + size[3];
        }

        /** NONE: no round has it. */
        int vanOf(int order) {
            for (int van = 0; van < VANS; van++) {
                for (int k = 0; k < size[van]; k++) {
                    if (stop[van][k] == order) {
                        return van;
                    }
                }
            }
            return NONE;
        }

        /** NONE: no round has it. */
        int placeOf(int order) {
            for (int van = 0; van < VANS; van++) {
                for (int k = 0; k < size[van]; k++) {
                    if (stop[van][k] == order) {
                        return k;
                    }
                }
            }
            return NONE;
        }

        /** The ORDERS that stand in a round. */
        int bits() {
            int bits = 0;
            for (int van = 0; van < VANS; van++) {
                for (int k = 0; k < size[van]; k++) {
                    bits |= 1 << stop[van][k];
                }
            }
            return bits;
        }

        /** The VANS that have a STOP. */
        int vanBits() {
            int bits = 0;
            for (int van = 0; van < VANS; van++) {
                if (size[van] > 0) {
                    bits |= 1 << van;
                }
            }
            return bits;
        }

        void insert(int order, int van, int k) {
            if (size[van] >= MOST_ORDERS || k < 0 || k > size[van]) {
                return;
            }
            int[] row = stop[van];
            for (int i = size[van]; i > k; i--) {
                row[i] = row[i - 1];
            }
            row[k] = order;
            size[van]++;
        }

        void remove(int order) {
            int van = vanOf(order);
            int k = placeOf(order);
            if (van == NONE || k == NONE) {
                return;
            }
            int[] row = stop[van];
            size[van]--;
            for (int i = k; i < size[van]; i++) {
                row[i] = row[i + 1];
            }
        }
    }

    /** The ROUNDS as they were ahead of the latest steps, in a ring. */
    private static final class Steps {
        private final Rounds[] ring = new Rounds[MOST_STEPS];
        private int next = 0;
        int count = 0;

        Steps() {
            for (int i = 0; i < MOST_STEPS; i++) {
                ring[i] = new Rounds();
            }
        }

        void keep(Rounds ahead) {
            ring[next].copyFrom(ahead);
            next = (next + 1) % MOST_STEPS;
            if (count < MOST_STEPS) {
                count++;
            }
        }

        boolean takeBack(Rounds rounds) {
            if (count == 0) {
                return false;
            }
            count--;
            next = (next + MOST_STEPS - 1) % MOST_STEPS;
            rounds.copyFrom(ring[next]);
            return true;
        }

        void forget() {
            count = 0;
        }
    }

    /**
     * A PIECE that grows place by place. It needs no driving anew: that it can begin from EARLY to
     * LATE and then lasts for DURATION tells all of what comes behind it.
     */
    private static final class Piece {
        private final Book book;
        private int last = DEPOT;
        private int early = 0;
        private int late = 0;
        private int downs = 0;
        private int ups = 0;
        int duration = 0;
        int length = 0;
        int top = 0;
        /** Whether it can be driven with none begun too late. */
        boolean inTime = true;

        Piece(Book book) {
            this.book = book;
        }

        void beginAt(int place, int open, int close) {
            last = place;
            early = open;
            late = close;
            duration = book.service[place];
            length = 0;
            downs = book.down[place];
            ups = book.up[place];
            top = downs > ups ? downs : ups;
            inTime = true;
        }

        void goOn(int place, int close) {
            int way = book.ways[last][place];
            int open = book.open[place];
            int down = book.down[place];
            int up = book.up[place];
            int until = duration + way;
            if (early + until > close) {
                inTime = false;
            }
            // Who begins as late as can be and still waits here, waits the least.
            int wait = open - until - late;
            if (wait > 0) {
                early = late;
                duration = until + wait + book.service[place];
            } else {
                early = open - until > early ? open - until : early;
                late = close - until < late ? close - until : late;
                duration = until + book.service[place];
            }
            length += way;
            // What is brought here was aboard from the first place on, what was fetched still is.
            int topAhead = top + down;
            int topHere = ups + (down > up ? down : up);
            top = topAhead > topHere ? topAhead : topHere;
            downs += down;
            ups += up;
            last = place;
        }

        int tell(int what) {
            switch (what) {
                case 0: return duration;
                case 1: return early;
                case 2: return late;
                case 3: return length;
                case 4: return downs;
                case 5: return ups;
                default: return top;
            }
        }
    }

    /** Tells of ROUNDS, there or thought of, whether they are GOOD and what they cost. */
    private static final class Judge {
        private final Book book;
        private final Fleet fleet;
        private final Piece part;

        Judge(Book book, Fleet fleet, Piece part) {
            this.book = book;
            this.fleet = fleet;
            this.part = part;
        }

        /** The whole ROUND becomes the piece, the order one more STOP k in it (NONE: no such). */
        void goRound(Rounds rounds, int van, int order, int k) {
            int[] row = rounds.stop[van];
            int size = rounds.size[van];
            part.beginAt(DEPOT, fleet.start[van], fleet.end[van]);
            for (int i = 0; i <= size && part.inTime; i++) {
                if (i == k && order != NONE) {
                    part.goOn(order, book.close[order]);
                }
                if (i < size) {
                    part.goOn(row[i], book.close[row[i]]);
                }
            }
            part.goOn(DEPOT, fleet.end[van]);
        }

        /** NOT_GOOD, if its ROUND isn't. */
        int costOf(Rounds rounds, int van) {
            if (rounds.size[van] == 0) {
                return 0;
            }
            goRound(rounds, van, NONE, NONE);
            return costOfPart(van);
        }

        /** With the order as one more STOP k. */
        int costWith(Rounds rounds, int van, int order, int k) {
            goRound(rounds, van, order, k);
            return costOfPart(van);
        }

        private int costOfPart(int van) {
            if (!part.inTime || part.top > fleet.capacity[van]) {
                return NOT_GOOD;
            }
            return fleet.prices[FIXED] + fleet.prices[DRIVE] * part.length
                    + fleet.prices[DURATION] * part.duration;
        }

        /** NOT_GOOD, if one isn't. */
        int costOfAll(Rounds rounds) {
            int all = 0;
            for (int van = 0; van < VANS; van++) {
                int one = costOf(rounds, van);
                if (one == NOT_GOOD) {
                    return NOT_GOOD;
                }
                all += one;
            }
            int driven = rounds.bits();
            for (int order = 0; order < book.count; order++) {
                if ((driven >> order & 1) == 0) {
                    all += book.penalty[order];
                }
            }
            return all;
        }
    }

    /** A ROUND as it is driven, from START on, stop by stop. */
    private static final class Drive {
        private final Book book;
        private final Fleet fleet;
        int comes = 0;
        int begins = 0;
        int leaves = 0;
        int aboard = 0;

        Drive(Book book, Fleet fleet) {
            this.book = book;
            this.fleet = fleet;
        }

        private static int placeAt(Rounds rounds, int van, int k) {
            return k >= 0 && k < rounds.size[van] ? rounds.stop[van][k] : DEPOT;
        }

        void driveTo(Rounds rounds, int van, int k) {
            leaves = fleet.start[van];
            aboard = 0;
            for (int i = 0; i < rounds.size[van]; i++) {
                aboard += book.down[rounds.stop[van][i]];
            }
            int from = DEPOT;
            for (int i = 0; i <= k; i++) {
                int place = placeAt(rounds, van, i);
                comes = leaves + book.ways[from][place];
                begins = Math.max(comes, book.open[place]);
                leaves = begins + book.service[place];
                aboard += book.up[place] - book.down[place];
                from = place;
            }
        }

        int latestAt(Rounds rounds, int van, int k) {
            int late = fleet.end[van];
            int next = DEPOT;
            for (int i = rounds.size[van] - 1; i >= k; i--) {
                int place = placeAt(rounds, van, i);
                int inTime = late - book.ways[place][next] - book.service[place];
                late = Math.min(book.close[place], inTime);
                next = place;
            }
            return late;
        }
    }

    /** MOVES: what they would make of the ROUNDS, and which is the best. */
    private static final class Moves {
        private final Rounds rounds;
        private final Judge referee;
        private final int[] costNow = new int[VANS];
        /** What the move weighed last makes of the ROUNDS, and the vans of which it may. */
        final Rounds then = new Rounds();
        private int oneVan = 0;
        private int otherVan = 0;
        int gained = 0;
        /** What the latest scan found: how many that may be, and of these the best. */
        int fit = 0;
        int bestA = 0;
        int bestB = 0;
        int bestC = 0;
        int bestGain = 0;

        Moves(Rounds rounds, Judge referee) {
            this.rounds = rounds;
            this.referee = referee;
        }

        boolean isMove(int kind, int a, int b, int c) {
            switch (kind) {
                case SHIFT:
                    return rounds.vanOf(a) != NONE && isVan(b) && within(c, 0, lastPlaceFor(a, b));
                case SWAP:
                    return a < b && c == 0 && rounds.vanOf(a) != NONE && rounds.vanOf(b) != NONE;
                case CROSS:
                    return isVan(a) && isVan(b) && a < b && c >= 0
                            && c % 16 <= rounds.size[a] && c / 16 <= rounds.size[b];
                case TURN:
                    return isVan(a) && b >= 0 && b < c && c < rounds.size[a];
                default:
                    return false;
            }
        }

        private int lastPlaceFor(int order, int van) {
            return rounds.vanOf(order) == van ? rounds.size[van] - 1 : rounds.size[van];
        }

        /** Gains are counted from here: what each VAN costs now. */
        void weighNow() {
            for (int van = 0; van < VANS; van++) {
                costNow[van] = referee.costOf(rounds, van);
            }
        }

        /** A MOVE that there is: 1 if it may be (its gain is told then), STATE or NOT otherwise. */
        int weigh(int kind, int a, int b, int c) {
            if (!changes(kind, a, b, c)) {
                return STATE;
            }
            then.copyFrom(rounds);
            shape(kind, a, b, c);
            int one = referee.costOf(then, oneVan);
            if (one == NOT_GOOD) {
                return NOT;
            }
            gained = costNow[oneVan] - one;
            if (otherVan != oneVan) {
                int other = referee.costOf(then, otherVan);
                if (other == NOT_GOOD) {
                    return NOT;
                }
                gained += costNow[otherVan] - other;
            }
            return 1;
        }

        private boolean changes(int kind, int a, int b, int c) {
            switch (kind) {
                case SHIFT: return rounds.vanOf(a) != b || rounds.placeOf(a) != c;
                case CROSS: return c % 16 != rounds.size[a] || c / 16 != rounds.size[b];
                default: return true;
            }
        }

        private void shape(int kind, int a, int b, int c) {
            oneVan = a;
            otherVan = b;
            switch (kind) {
                case SHIFT:
                    oneVan = rounds.vanOf(a);
                    then.remove(a);
                    then.insert(a, b, c);
                    break;
                case SWAP:
                    oneVan = rounds.vanOf(a);
                    otherVan = rounds.vanOf(b);
                    then.stop[oneVan][rounds.placeOf(a)] = b;
                    then.stop[otherVan][rounds.placeOf(b)] = a;
                    break;
                case CROSS:
                    crossTail(a, c % 16, b, c / 16);
                    crossTail(b, c / 16, a, c % 16);
                    break;
                default:
                    otherVan = a;
                    for (int i = b; i <= c; i++) {
                        then.stop[a][i] = rounds.stop[a][b + c - i];
                    }
                    break;
            }
        }

        /** Behind its first STOPS a van gets what another one has behind its own first ones. */
        private void crossTail(int van, int first, int other, int otherFirst) {
            int tail = rounds.size[other] - otherFirst;
            if (tail < 0 || first + tail > MOST_ORDERS) {
                return;
            }
            System.arraycopy(rounds.stop[other], otherFirst, then.stop[van], first, tail);
            then.size[van] = first + tail;
        }

        /** All MOVES of a KIND are weighed, by a, then b, then c: of like ones the first is best. */
        void scan(int kind) {
            weighNow();
            fit = 0;
            bestGain = 0;
            for (int a = 0; a < MOST_ORDERS; a++) {
                for (int b = 0; b < MOST_ORDERS; b++) {
                    int mostC = mostC(kind, a, b);
                    for (int c = 0; c <= mostC; c++) {
                        if (isMove(kind, a, b, c) && weigh(kind, a, b, c) == 1) {
                            note(a, b, c);
                        }
                    }
                }
            }
        }

        /** No MOVE with these has a greater c; NONE: there is no MOVE with these. */
        private int mostC(int kind, int a, int b) {
            switch (kind) {
                case SHIFT: return isVan(b) && rounds.vanOf(a) != NONE ? lastPlaceFor(a, b) : NONE;
                case SWAP: return a < b ? 0 : NONE;
                case CROSS: return a < b && isVan(b) ? rounds.size[a] + 16 * rounds.size[b] : NONE;
                default: return isVan(a) ? rounds.size[a] - 1 : NONE;
            }
        }

        private void note(int a, int b, int c) {
            fit++;
            if (gained > bestGain) {
                bestGain = gained;
                bestA = a;
                bestB = b;
                bestC = c;
            }
        }

        /** How many were done, n at most. */
        int descend(int n) {
            int done = 0;
            boolean better = true;
            while (done < n && better) {
                better = false;
                for (int kind = 0; kind < KINDS && !better; kind++) {
                    scan(kind);
                    if (bestGain > 0) {
                        weigh(kind, bestA, bestB, bestC);
                        rounds.copyFrom(then);
                        better = true;
                        done++;
                    }
                }
            }
            return done;
        }
    }

    /** ORDERS that are LEFT: their PRICES, which comes first; and what is taken out ahead of that. */
    private static final class Filling {
        private final Book book;
        private final Rounds rounds;
        private final Judge referee;
        /** Of the order weighed last: its PRICE in each VAN (or NEVER) and the place (or NONE). */
        final int[] least = new int[VANS];
        final int[] place = new int[VANS];
        private final int[] sorted = new int[VANS];
        /** The ORDER that comes first (NONE: there is none) and where it comes to. */
        int chosen = NONE;
        private int chosenVan = 0;
        private int chosenPlace = 0;

        Filling(Book book, Rounds rounds, Judge referee) {
            this.book = book;
            this.rounds = rounds;
            this.referee = referee;
        }

        void weigh(int order) {
            for (int van = 0; van < VANS; van++) {
                int now = referee.costOf(rounds, van);
                least[van] = NEVER;
                place[van] = NONE;
                for (int k = 0; k <= rounds.size[van]; k++) {
                    int then = referee.costWith(rounds, van, order, k);
                    if (then != NOT_GOOD && then - now < least[van]) {
                        least[van] = then - now;
                        place[van] = k;
                    }
                }
            }
        }

        /** Of the order weighed last. */
        int regretBy(int k) {
            for (int i = 0; i < VANS; i++) {
                int at = i;
                while (at > 0 && sorted[at - 1] > least[i]) {
                    sorted[at] = sorted[at - 1];
                    at--;
                }
                sorted[at] = least[i];
            }
            int regret = 0;
            for (int i = 1; i < k && i < VANS; i++) {
                regret += sorted[i] - sorted[0];
            }
            return regret;
        }

        private int cheapestVan() {
            int best = 0;
            for (int van = 1; van < VANS; van++) {
                if (least[van] < least[best]) {
                    best = van;
                }
            }
            return best;
        }

        void choose(int k) {
            chosen = NONE;
            int mostRegret = 0;
            int leastPrice = 0;
            int driven = rounds.bits();
            for (int order = 0; order < book.count; order++) {
                if ((driven >> order & 1) == 1) {
                    continue;
                }
                weigh(order);
                int van = cheapestVan();
                if (least[van] == NEVER) {
                    continue;
                }
                int regret = regretBy(k);
                if (chosen == NONE || regret > mostRegret
                        || regret == mostRegret && least[van] < leastPrice) {
                    chosen = order;
                    chosenVan = van;
                    chosenPlace = place[van];
                    mostRegret = regret;
                    leastPrice = least[van];
                }
            }
        }

        /** How many came. */
        int fillBy(int k) {
            int came = 0;
            choose(k);
            while (chosen != NONE && came < MOST_ORDERS) {
                rounds.insert(chosen, chosenVan, chosenPlace);
                came++;
                choose(k);
            }
            return came;
        }

        /** How many were taken out: the n nearest, or all. */
        int ruinAround(int order, int n) {
            int taken = 0;
            int nearest = nearestTo(order);
            while (taken < n && nearest != NONE) {
                rounds.remove(nearest);
                taken++;
                nearest = nearestTo(order);
            }
            return taken;
        }

        /** Of the ORDERS in ROUNDS; NONE: there are none. */
        private int nearestTo(int order) {
            int nearest = NONE;
            int driven = rounds.bits();
            for (int other = 0; other < book.count; other++) {
                if ((driven >> other & 1) == 1 && (nearest == NONE
                        || book.ways[order][other] < book.ways[order][nearest])) {
                    nearest = other;
                }
            }
            return nearest;
        }
    }

    /** Bytes one behind the other: THE TAPE, THE PAPER. */
    private static final class Text {
        private final byte[] bytes;
        int length = 0;

        Text(int most) {
            bytes = new byte[Math.max(most, 0)];
        }

        /** False: there is no room. */
        boolean add(int letter) {
            if (length >= bytes.length) {
                return false;
            }
            bytes[length] = (byte) letter;
            length++;
            return true;
        }

        /** A number of one or two figures. */
        void addNumber(int number) {
            if (number >= 10) {
                add('0' + number / 10);
            }
            add('0' + number % 10);
        }

        /** NONE: there is no such byte. */
        int at(int i) {
            return i >= 0 && i < length ? bytes[i] : NONE;
        }
    }

    /** Reads THE TAPE from the left, up to the first FAULT. */
    private static final class Reader {
        private final Text tape;
        private int at = 0;
        /** NONE: none as yet. */
        private int fault = NONE;
        /** Each order of the text: x, y, OPEN, CLOSE, SERVICE, DOWN, UP. */
        final int[][] parts = new int[MOST_PARTS][7];

        Reader(Text tape) {
            this.tape = tape;
        }

        private void begin() {
            at = 0;
            fault = NONE;
        }

        private boolean sees(int sign) {
            return fault == NONE && tape.at(at) == sign;
        }

        /** Whatever is behind a FAULT isn't read any more. */
        private void pass(int sign) {
            if (sees(sign)) {
                at++;
            } else {
                failAt(at);
            }
        }

        private void failAt(int place) {
            if (fault == NONE) {
                fault = place;
            }
        }

        /** A number of so many figures at most; it is looked at ahead of the byte behind it. */
        private int number(int figures, int least, int most) {
            int from = at;
            int v = 0;
            for (int i = 0; i < figures && fault == NONE && isFigure(tape.at(at)); i++) {
                v = v * 10 + tape.at(at) - '0';
                at++;
            }
            if (at == from || v < least || v > most) {
                failAt(from);
            }
            return v;
        }

        private static boolean isFigure(int letter) {
            return letter >= '0' && letter <= '9';
        }

        private boolean isAtEnd() {
            return at >= tape.length;
        }

        /** How many there are; FAULTY less the FAULT. */
        int readOrders() {
            begin();
            int count = 0;
            boolean more = true;
            while (more && count < MOST_PARTS) {
                readOrder(parts[count]);
                count++;
                more = fault == NONE && !isAtEnd();
                if (more) {
                    pass(';');
                }
            }
            return fault == NONE ? count : FAULTY - fault;
        }

        private void readOrder(int[] told) {
            if (told.length < 7) {
                return;
            }
            told[0] = number(3, 0, MOST_PLACE);
            pass(',');
            told[1] = number(3, 0, MOST_PLACE);
            pass('@');
            told[2] = number(3, 0, MOST_HOUR);
            pass('-');
            told[3] = number(3, told[2], MOST_HOUR);
            pass('/');
            told[4] = number(3, 0, MOST_SERVICE);
            told[5] = readLoad('d');
            told[6] = readLoad('u');
        }

        private int readLoad(int sign) {
            if (!sees(sign)) {
                return 0;
            }
            at++;
            return number(3, 0, MOST_LOAD);
        }

        /** The ROUNDS become those of the text: how many STOPS; FAULTY less the FAULT. */
        int readPlan(Rounds rounds, int orders) {
            begin();
            rounds.clearAll();
            int van = NONE;
            boolean more = true;
            // A fifth one can't be higher than those ahead: that it is read is a FAULT.
            for (int i = 0; i <= VANS && more; i++) {
                van = number(1, van + 1, VANS - 1);
                pass(':');
                readRound(rounds, van, orders);
                more = fault == NONE && !isAtEnd();
                if (more) {
                    pass(';');
                }
            }
            return fault == NONE ? rounds.stopsInAll() : FAULTY - fault;
        }

        /** Up to the byte that is no comma. */
        private void readRound(Rounds rounds, int van, int orders) {
            boolean more = fault == NONE;
            for (int i = 0; i < MOST_TAPE && more; i++) {
                int from = at;
                int order = number(2, 0, orders - 1);
                if (rounds.vanOf(order) != NONE) {
                    failAt(from);
                }
                more = false;
                if (fault == NONE) {
                    rounds.insert(order, van, rounds.size[van]);
                    more = sees(',');
                }
                if (more) {
                    pass(',');
                }
            }
        }
    }
}
