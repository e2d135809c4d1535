/** Each promise of the document by itself: ordinary calls, the edges it names, wrong ones. */
public final class PromisesTest {
    private static final int NONE = -1, BAD = -2, STATE = -3, FULL = -4, LACK = -5, NOT = -7;
    private static final int NOTHING = -11, BEYOND = -13, BELOW = -14;
    private static final long NO = Long.MIN_VALUE;
    private static int promise = 0;
    private static int wrong = 0;
    private static int checks = 0;

    private static void due(String what, long got, long want) {
        checks++;
        if (got != want) {
            wrong++;
            System.out.println("promise " + promise + ": " + what + " answered " + got + ", due is " + want);
        }
    }

    private static void text(RoundSlack x, String text) {
        for (int i = 0; i < text.length(); i++) {
            due("feed " + text, x.feed(text.charAt(i)), i + 1);
        }
    }

    private static int orders(RoundSlack x, String text) {
        text(x, text);
        return x.orders();
    }

    private static int plan(RoundSlack x, String text) {
        text(x, text);
        return x.plan();
    }

    private static void dueRounds(RoundSlack x, String want) {
        int n = x.spell();
        StringBuilder s = new StringBuilder();
        for (int i = 0; i < n; i++) {
            s.append((char) x.paper(i));
        }
        checks++;
        if (!s.toString().equals(want)) {
            wrong++;
            System.out.println("promise " + promise + ": rounds " + s + ", due are " + want);
        }
    }

    /** Four orders on a square of 10 around 0, 0 .. 10, 10, and one far off that closes early. */
    private static RoundSlack square() {
        RoundSlack x = new RoundSlack();
        due("order", x.order(0, 10, 0, 600, 5), 0);
        due("order", x.order(10, 10, 50, 60, 5), 1);
        due("order", x.order(10, 0, 0, 600, 5), 2);
        due("order", x.order(0, 20, 0, 600, 0), 3);
        due("order", x.order(40, 40, 0, 79, 0), 4);
        due("load", x.load(0, 0, 10), 0);
        due("load", x.load(1, 1, 20), 0);
        due("load", x.load(2, 0, 5), 0);
        due("load", x.load(2, 1, 5), 0);
        return x;
    }

    /** Four orders one behind the other on a line: 10, 20, 30, 40. */
    private static RoundSlack line() {
        RoundSlack x = new RoundSlack();
        for (int i = 1; i <= 4; i++) {
            due("order", x.order(10 * i, 0, 0, 600, 0), i - 1);
        }
        return x;
    }

    public static void main(String[] args) {
        p1NewObject();
        p2Depot();
        p3Order();
        p4Load();
        p5Van();
        p6Price();
        p7Feed();
        p8Clear();
        p9Orders();
        p9FaultsOfOrders();
        p10Plan();
        p10FaultsOfPlan();
        p11Spell();
        p12Paper();
        p13Way();
        p14Of();
        p15Stops();
        p16Stop();
        p17Driven();
        p18Latest();
        p19Slack();
        p20Piece();
        p21Whole();
        p22Cost();
        p23Left();
        p24Put();
        p25Would();
        p26Take();
        p27May();
        p28Gain();
        p29Move();
        p30Best();
        p31Descent();
        p32Many();
        p33Priced();
        p34Placed();
        p35Regret();
        p36First();
        p37Fill();
        p38Ruin();
        p39Again();
        p40Back();
        p41Told();
        p42Row();
        p43Set();
        p44Get();
        p45Lay();
        p46Judge();
        p47Image();
        p48Undo();
        System.out.println(checks - wrong + " answers as due, " + wrong + " not");
        if (wrong != 0) {
            System.exit(1);
        }
    }

    private static void p1NewObject() {
        promise = 1;
        RoundSlack x = new RoundSlack();
        int[] want = {0, 0, 0, 0, 0, 0, 1, 0, 0, 0, 0};
        for (int i = 0; i < want.length; i++) {
            due("told " + i, x.told(i), want[i]);
        }
        for (int v = 0; v < 4; v++) {
            due("capacity", x.told(20 + v), 100);
            due("start", x.told(24 + v), 0);
            due("end", x.told(28 + v), 600);
            due("stops", x.stops(v), 0);
        }
        due("left", x.left(), 0);
        due("cost", x.cost(-1), 0);
        due("of", x.of(0, 0), NONE);
    }

    private static void p2Depot() {
        promise = 2;
        RoundSlack x = new RoundSlack();
        due("depot 40 0", x.depot(40, 0), 1);
        due("x", x.told(9), 40);
        due("y", x.told(10), 0);
        due("depot 0 40", x.depot(0, 40), 1);
        due("x", x.told(9), 0);
        due("y", x.told(10), 40);
        due("depot 41 0", x.depot(41, 0), BAD);
        due("depot 0 41", x.depot(0, 41), BAD);
        due("depot -1 0", x.depot(-1, 0), BAD);
        due("depot 0 -1", x.depot(0, -1), BAD);
        due("y stays", x.told(10), 40);
        due("order", x.order(3, 30, 0, 600, 0), 0);
        due("way from the depot", x.way(-1, 0), 13);
        due("put", x.put(0, 3, 0), 1);
        due("depot, stops", x.depot(1, 1), STATE);
        due("depot, bad ahead of stops", x.depot(1, 41), BAD);
        due("steps stay", x.told(3), 1);
        due("take", x.take(0), 3);
        due("steps", x.told(3), 2);
        due("depot", x.depot(1, 1), 1);
        due("steps forgotten", x.told(3), 0);
        due("way anew", x.way(0, -1), 31);
    }

    private static void p3Order() {
        promise = 3;
        RoundSlack x = new RoundSlack();
        due("order, least", x.order(0, 0, 0, 0, 0), 0);
        due("order, most", x.order(40, 40, 600, 600, 60), 1);
        int[][] bad = {{-1, 0, 0, 0, 0}, {41, 0, 0, 0, 0}, {0, -1, 0, 0, 0}, {0, 41, 0, 0, 0},
            {0, 0, -1, 0, 0}, {0, 0, 601, 601, 0}, {0, 0, 0, 601, 0}, {0, 0, 0, -1, 0},
            {0, 0, 50, 49, 0}, {0, 0, 0, 0, -1}, {0, 0, 0, 0, 61}};
        for (int[] b : bad) {
            due("order " + java.util.Arrays.toString(b), x.order(b[0], b[1], b[2], b[3], b[4]), BAD);
        }
        due("none came", x.told(0), 2);
        due("put", x.put(0, 0, 0), 1);
        due("order", x.order(1, 2, 3, 4, 5), 2);
        due("steps forgotten", x.told(3), 0);
        for (int what = 0; what < 10; what++) {
            due("of", x.of(2, what), new int[] {1, 2, 3, 4, 5, 0, 0, 500, LACK, LACK}[what]);
        }
        for (int i = 3; i < 12; i++) {
            due("order", x.order(1, 1, 1, 1, 1), i);
        }
        due("take", x.take(0), 0);
        due("a thirteenth", x.order(1, 1, 1, 1, 1), FULL);
        due("bad ahead of full", x.order(1, 1, 1, 0, 1), BAD);
        due("steps stay", x.told(3), 1);
        due("orders", x.told(0), 12);
    }

    private static void p4Load() {
        promise = 4;
        RoundSlack x = line();
        due("down", x.load(1, 0, 50), 0);
        due("down again", x.load(1, 0, 7), 50);
        due("up", x.load(1, 1, 50), 0);
        due("up again", x.load(1, 1, 0), 50);
        due("penalty", x.load(1, 2, 9999), 500);
        due("penalty again", x.load(1, 2, 0), 9999);
        due("of down", x.of(1, 5), 7);
        due("of up", x.of(1, 6), 0);
        due("of penalty", x.of(1, 7), 0);
        due("others stay", x.of(0, 7), 500);
        due("no such order", x.load(4, 0, 51), NONE);
        due("no such order", x.load(-1, 0, 1), NONE);
        due("no such what", x.load(0, 3, 51), NONE);
        due("no such what", x.load(0, -1, 1), NONE);
        due("too much down", x.load(0, 0, 51), BAD);
        due("too much up", x.load(0, 1, 51), BAD);
        due("too much penalty", x.load(0, 2, 10000), BAD);
        due("below", x.load(0, 0, -1), BAD);
        due("below", x.load(0, 1, -1), BAD);
        due("below", x.load(0, 2, -1), BAD);
        due("put", x.put(0, 0, 0), 1);
        due("not left", x.load(0, 0, 1), STATE);
        due("not left", x.load(0, 2, 1), STATE);
        due("bad ahead of state", x.load(0, 0, 51), BAD);
        due("steps stay", x.told(3), 1);
        due("another one is left", x.load(1, 0, 7), 7);
        due("steps forgotten", x.told(3), 0);
    }

    private static void p5Van() {
        promise = 5;
        RoundSlack x = line();
        due("van", x.van(2, 200, 999, 999), 1);
        due("capacity", x.told(22), 200);
        due("start", x.told(26), 999);
        due("end", x.told(30), 999);
        due("others stay", x.told(28), 600);
        due("van, least", x.van(2, 0, 0, 0), 1);
        due("no such van", x.van(4, 201, 0, 0), NONE);
        due("no such van", x.van(-1, 1, 0, 0), NONE);
        due("capacity", x.van(2, 201, 0, 0), BAD);
        due("capacity", x.van(2, -1, 0, 0), BAD);
        due("start", x.van(2, 1, -1, 0), BAD);
        due("start", x.van(2, 1, 1000, 1000), BAD);
        due("end", x.van(2, 1, 0, 1000), BAD);
        due("end below start", x.van(2, 1, 10, 9), BAD);
        due("capacity stays", x.told(22), 0);
        due("put", x.put(0, 1, 0), 1);
        due("it has a stop", x.van(1, 5, 5, 5), STATE);
        due("bad ahead of state", x.van(1, 5, 5, 4), BAD);
        due("steps stay", x.told(3), 1);
        due("another has none", x.van(0, 5, 5, 6), 1);
        due("steps forgotten", x.told(3), 0);
        due("end", x.told(28), 6);
    }

    private static void p6Price() {
        promise = 6;
        RoundSlack x = line();
        due("put", x.put(0, 0, 0), 1);
        due("drive", x.price(0, 9), 1);
        due("duration", x.price(1, 9), 0);
        due("fixed", x.price(2, 999), 0);
        due("drive", x.told(6), 9);
        due("duration", x.told(7), 9);
        due("fixed", x.told(8), 999);
        due("cost", x.cost(0), 999 + 9 * 20 + 9 * 20);
        due("steps stay", x.told(3), 1);
        due("drive again", x.price(0, 0), 9);
        due("duration again", x.price(1, 2), 9);
        due("fixed again", x.price(2, 3), 999);
        due("cost", x.cost(0), 3 + 2 * 20);
        due("what", x.price(3, 1000), NONE);
        due("what", x.price(-1, 1), NONE);
        due("v", x.price(0, 10), BAD);
        due("v", x.price(1, 10), BAD);
        due("v", x.price(2, 1000), BAD);
        due("v", x.price(0, -1), BAD);
        due("v", x.price(1, -1), BAD);
        due("v", x.price(2, -1), BAD);
    }

    private static void p7Feed() {
        promise = 7;
        RoundSlack x = new RoundSlack();
        due("0", x.feed(0), BAD);
        due("128", x.feed(128), BAD);
        due("-1", x.feed(-1), BAD);
        due("1", x.feed(1), 1);
        for (int i = 2; i <= 160; i++) {
            due("127", x.feed(127), i);
        }
        due("bytes", x.told(4), 160);
        due("one more", x.feed(65), FULL);
        due("bad ahead of full", x.feed(128), BAD);
        due("bytes", x.told(4), 160);
    }

    private static void p8Clear() {
        promise = 8;
        RoundSlack x = new RoundSlack();
        due("clear nothing", x.clear(), 0);
        text(x, "4:");
        due("clear", x.clear(), 2);
        due("clear again", x.clear(), 0);
        due("bytes", x.told(4), 0);
        due("a text behind it", orders(x, "1,2@3-4/5"), 1);
    }

    private static void p9Orders() {
        promise = 9;
        RoundSlack x = line();
        due("put", x.put(0, 0, 0), 1);
        due("two", orders(x, "40,0@600-600/60;001,2@003-04/5d50u6"), 2);
        due("steps forgotten", x.told(3), 0);
        due("bytes", x.told(4), 0);
        int[][] want = {{40, 0, 600, 600, 60, 0, 0, 500, LACK, LACK}, {1, 2, 3, 4, 5, 50, 6, 500, LACK, LACK}};
        for (int what = 0; what < 10; what++) {
            due("of 4", x.of(4, what), want[0][what]);
            due("of 5", x.of(5, what), want[1][what]);
        }
        due("none down, none up", orders(new RoundSlack(), "1,2@3-4/5d0u0"), 1);
        due("down alone", orders(x, "1,2@3-4/5d7"), 1);
        due("down", x.of(6, 5), 7);
        due("up", x.of(6, 6), 0);
        due("up alone", orders(x, "1,2@3-4/5u8"), 1);
        due("down", x.of(7, 5), 0);
        due("up", x.of(7, 6), 8);
        due("back too late", x.put(4, 1, 0), NOT);
        due("way", x.way(4, 5), 41);
        due("put", x.put(1, 1, 0), 1);
        String five = "1,1@1-1/1;1,1@1-1/1;1,1@1-1/1;1,1@1-1/1;1,1@1-1/1";
        due("five are too many", orders(x, five), FULL);
        due("none came", x.told(0), 8);
        due("bytes", x.told(4), 0);
        due("steps stay", x.told(3), 1);
        due("a fault goes ahead of full", orders(x, five + ","), -100 - 49);
        due("four are as many as may be", orders(x, five.substring(10)), 4);
        due("orders", x.told(0), 12);
        due("one is too many", orders(x, "1,1@1-1/1"), FULL);
    }

    private static void p9FaultsOfOrders() {
        promise = 9;
        String good = "1,2@3-4/5d6u7";
        String[] texts = {"", "1", "1,", "1,2", "1,2@", "1,2@3", "1,2@3-", "1,2@3-4", "1,2@3-4/",
            "1,2@3-4/5d", "1,2@3-4/5u", "1,2@3-4/5d6u", good + ";", good + ";" + good + ";"};
        for (String text : texts) {
            RoundSlack x = new RoundSlack();
            due("too early " + text, orders(x, text), -100 - text.length());
            due("none came", x.told(0), 0);
            due("bytes", x.told(4), 0);
        }
        Object[][] faults = {{"x", 0}, {",", 0}, {" 1", 0}, {"1;", 1}, {"1,,", 2}, {"1,2-", 3}, {"1,2@-", 4},
            {"1,2@3,", 5}, {"1,2@3-/", 6}, {"1,2@3-4;", 7}, {"1,2@3-4/5,", 9}, {"1,2@3-4/5dd", 10},
            {"1,2@3-4/5u6d7", 11}, {"1,2@3-4/5u6u7", 11}, {"1,2@3-4/5d6d7", 11}, {"1,2@3-4/5;;", 10},
            {"41,", 0}, {"41x", 0}, {"41", 0}, {"999", 0}, {"0400", 3}, {"4000", 0}, {"1,41", 2},
            {"1,2@601", 4}, {"1,2@0600", 7}, {"1,2@3-2", 6}, {"1,2@3-601", 6}, {"1,2@600-599", 8},
            {"1,2@3-4/61", 8}, {"1,2@3-4/5d51", 10}, {"1,2@3-4/5u51", 10}, {"1,2@3-4/5d1u051u", 12},
            {good + ";41", 14}, {good + ";1,2@3-2/5d6u7", 20}, {"1,2 @3-4/5", 3}, {"1,2@3-4/5D6", 9},
            {"-1,2@3-4/5", 0}, {"1,2@3-4/0600", 11}, {"1,2@3-4/005;x", 12}};
        for (Object[] fault : faults) {
            RoundSlack x = new RoundSlack();
            due("fault " + fault[0], orders(x, (String) fault[0]), -100 - (Integer) fault[1]);
            due("none came", x.told(0), 0);
            due("bytes", x.told(4), 0);
        }
        RoundSlack x = new RoundSlack();
        StringBuilder full = new StringBuilder("0,0@0-0/0");
        while (full.length() < 159) {
            full.append(";0,0@0-0/0");
        }
        due("16 parts", orders(x, full.toString()), FULL);
        due("a sign behind 16 parts", orders(x, full + ";"), -100 - 160);
    }

    private static void p10Plan() {
        promise = 10;
        RoundSlack x = line();
        due("put", x.put(3, 3, 0), 1);
        due("plan", plan(x, "0:2,1;2:0"), 3);
        due("steps forgotten", x.told(3), 0);
        due("bytes", x.told(4), 0);
        dueRounds(x, "0:2,1;2:0");
        due("3 is left", x.left(), 8);
        due("two figures", plan(x, "3:03,00"), 2);
        dueRounds(x, "3:3,0");
        due("put", x.put(1, 0, 0), 1);
        due("fault", plan(x, "3:03,"), -105);
        due("steps stay", x.told(3), 1);
        dueRounds(x, "0:1;3:3,0");
        due("end", x.van(1, 100, 0, 79), 1);
        due("put", x.put(2, 0, 0), 1);
        due("too late back", plan(x, "1:3"), NOT);
        due("bytes", x.told(4), 0);
        due("steps stay", x.told(3), 1);
        dueRounds(x, "0:2,1;3:3,0");
        due("in time back", x.van(1, 100, 0, 80), 1);
        due("in time back", plan(x, "1:3"), 1);
        dueRounds(x, "1:3");
    }

    private static void p10FaultsOfPlan() {
        promise = 10;
        Object[][] faults = {{"", 0}, {"0", 1}, {"0:", 2}, {"0:1,", 4}, {"0:1;", 4}, {"0:1;1", 5}, {"0:1;1:", 6},
            {"4:0", 0}, {"9", 0}, {"x", 0}, {":", 0}, {"00:1", 1}, {"0;", 1}, {"0::", 2}, {"0:,", 2},
            {"0:4", 2}, {"0:12", 2}, {"0:001", 4}, {"0:1,1", 4}, {"0:1,01x", 4}, {"0:1x", 3}, {"0:1;0:2", 4},
            {"1:1;0:2", 4}, {"1:1;2:1", 6}, {"0:1;;", 4}, {"3:0;4:1", 4}, {"0:1,2;1:3,2", 10}, {"0: 1", 2},
            {"0:1:", 3}, {"0:0;1:1;2:2;3:3;", 16}, {"0:0;1:1;2:2;3:3;4", 16}};
        for (Object[] fault : faults) {
            RoundSlack x = line();
            due("put", x.put(0, 0, 0), 1);
            due("fault " + fault[0], plan(x, (String) fault[0]), -100 - (Integer) fault[1]);
            due("bytes", x.told(4), 0);
            due("steps stay", x.told(3), 1);
            dueRounds(x, "0:0");
        }
        RoundSlack x = new RoundSlack();
        due("no orders at all", plan(x, "0:0"), -102);
        RoundSlack y = line();
        due("all vans", plan(y, "0:0;1:1;2:2;3:3"), 4);
    }

    private static void p11Spell() {
        promise = 11;
        RoundSlack x = new RoundSlack();
        due("none", x.spell(), 0);
        due("bytes", x.told(5), 0);
        for (int i = 0; i < 12; i++) {
            due("order", x.order(1, 1, 0, 600, 0), i);
        }
        due("plan", plan(x, "1:11,0;3:10,9"), 4);
        due("ahead of it", x.told(5), 0);
        due("spell", x.spell(), 13);
        due("bytes", x.told(5), 13);
        String want = "1:11,0;3:10,9";
        for (int i = 0; i < 13; i++) {
            due("paper", x.paper(i), want.charAt(i));
        }
        due("ruin", x.ruin(0, 12), 4);
        due("the latest text stays", x.paper(3), '1');
        due("none", x.spell(), 0);
        due("bytes", x.told(5), 0);
        due("all", plan(x, "0:11,10,9;1:8,7,6;2:5,4,3;3:2,1,0"), 12);
        due("spell", x.spell(), 33);
    }

    private static void p12Paper() {
        promise = 12;
        RoundSlack x = line();
        due("nothing", x.paper(0), NONE);
        due("put", x.put(2, 1, 0), 1);
        due("not yet", x.paper(0), NONE);
        due("spell", x.spell(), 3);
        due("0", x.paper(0), '1');
        due("1", x.paper(1), ':');
        due("2", x.paper(2), '2');
        due("3", x.paper(3), NONE);
        due("-1", x.paper(-1), NONE);
        due("image", x.image(), 4);
        due("take", x.take(2), 1);
        due("spell", x.spell(), 0);
        due("undo", x.undo(), 4);
        due("it stays by undo", x.paper(0), NONE);
    }

    private static void p13Way() {
        promise = 13;
        RoundSlack x = square();
        due("depot", x.depot(5, 0), 1);
        due("0 1", x.way(0, 1), 10);
        due("1 0", x.way(1, 0), 10);
        due("0 2", x.way(0, 2), 20);
        due("itself", x.way(2, 2), 0);
        due("from the depot", x.way(-1, 0), 15);
        due("to the depot", x.way(4, -1), 75);
        due("the depot", x.way(-1, -1), 0);
        due("no such order", x.way(0, 5), NONE);
        due("no such order", x.way(5, 0), NONE);
        due("-2", x.way(-2, 0), NONE);
        due("-2", x.way(0, -2), NONE);
    }

    private static void p14Of() {
        promise = 14;
        RoundSlack x = square();
        due("plan", plan(x, "2:2,1"), 2);
        int[] want = {10, 10, 50, 60, 5, 0, 20, 500, 2, 1};
        for (int what = 0; what < 10; what++) {
            due("of 1 " + what, x.of(1, what), want[what]);
        }
        due("down", x.of(0, 5), 10);
        due("first stop", x.of(2, 9), 0);
        due("left", x.of(0, 8), LACK);
        due("left", x.of(0, 9), LACK);
        due("no such order", x.of(5, 0), NONE);
        due("no such order", x.of(-1, 0), NONE);
        due("no such what", x.of(0, 10), NONE);
        due("no such what", x.of(0, -1), NONE);
    }

    private static void p15Stops() {
        promise = 15;
        RoundSlack x = line();
        due("plan", plan(x, "0:1,2,3;3:0"), 4);
        due("0", x.stops(0), 3);
        due("1", x.stops(1), 0);
        due("3", x.stops(3), 1);
        due("4", x.stops(4), NONE);
        due("-1", x.stops(-1), NONE);
    }

    private static void p16Stop() {
        promise = 16;
        RoundSlack x = line();
        due("plan", plan(x, "0:3,1;3:0"), 3);
        due("0 0", x.stop(0, 0), 3);
        due("0 1", x.stop(0, 1), 1);
        due("0 2", x.stop(0, 2), NONE);
        due("0 -1", x.stop(0, -1), NONE);
        due("1 0", x.stop(1, 0), NONE);
        due("3 0", x.stop(3, 0), 0);
        due("4 0", x.stop(4, 0), NONE);
        due("-1 0", x.stop(-1, 0), NONE);
    }

    private static void p17Driven() {
        promise = 17;
        RoundSlack x = square();
        due("van", x.van(1, 25, 3, 100), 1);
        due("plan", plan(x, "1:0,1,2"), 3);
        // The van leaves at 3 with 15 aboard.
        int[][] want = {{13, 0, 13, 18, 5}, {28, 22, 50, 55, 25}, {65, 0, 65, 70, 25}, {80, 0, 80, 80, 25}};
        for (int k = 0; k < 4; k++) {
            for (int what = 0; what < 5; what++) {
                due("stop " + k + " what " + what, x.driven(1, k, what), want[k][what]);
            }
        }
        due("behind the depot", x.driven(1, 4, 0), NONE);
        due("ahead", x.driven(1, -1, 0), NONE);
        due("what", x.driven(1, 0, 5), NONE);
        due("what", x.driven(1, 0, -1), NONE);
        due("van", x.driven(4, 0, 0), NONE);
        due("van", x.driven(-1, 0, 0), NONE);
        due("van 2 starts", x.van(2, 25, 7, 100), 1);
        for (int what = 0; what < 5; what++) {
            due("no stops " + what, x.driven(2, 0, what), new int[] {7, 0, 7, 7, 0}[what]);
        }
    }

    private static void p18Latest() {
        promise = 18;
        RoundSlack x = square();
        due("van", x.van(1, 25, 3, 78), 1);
        due("too late", plan(x, "1:0,1,2"), NOT);
        due("van", x.van(1, 25, 3, 82), 1);
        due("plan", plan(x, "1:0,1,2"), 3);
        due("depot", x.latest(1, 3), 82);
        due("2", x.latest(1, 2), 67);
        due("1, by what is behind", x.latest(1, 1), 52);
        due("0", x.latest(1, 0), 37);
        due("no stops", x.latest(0, 0), 600);
        due("plan", plan(x, "0:0,1,2"), 3);
        due("1, by its close", x.latest(0, 1), 60);
        due("2", x.latest(0, 2), 585);
        due("0", x.latest(0, 0), 45);
        due("behind the depot", x.latest(0, 4), NONE);
        due("ahead", x.latest(0, -1), NONE);
        due("van", x.latest(4, 0), NONE);
        due("van", x.latest(-1, 0), NONE);
    }

    private static void p19Slack() {
        promise = 19;
        RoundSlack x = square();
        due("van", x.van(1, 25, 3, 82), 1);
        due("plan", plan(x, "1:0,1,2"), 3);
        due("0", x.slack(1, 0), 24);
        due("1", x.slack(1, 1), 2);
        due("2", x.slack(1, 2), 2);
        due("depot", x.slack(1, 3), 2);
        due("behind", x.slack(1, 4), NONE);
        due("ahead", x.slack(1, -1), NONE);
        due("no stops", x.slack(2, 0), 600);
        due("van", x.slack(4, 0), NONE);
        due("van", x.slack(-1, 0), NONE);
    }

    private static void p20Piece() {
        promise = 20;
        RoundSlack x = square();
        due("plan", plan(x, "1:0,1,2;2:3"), 4);
        // From 0 it is 15 to 1, which opens at 50: begun at 35 .. 45 there is no wait.
        int[][] want = {{5, 0, 600, 0, 10, 0, 10}, {20, 35, 45, 10, 10, 20, 20}, {35, 35, 45, 20, 15, 25, 25}};
        for (int j = 0; j < 3; j++) {
            for (int what = 0; what < 7; what++) {
                due("0 to " + j + " what " + what, x.piece(1, 0, j, what), want[j][what]);
            }
        }
        int[] rest = {20, 50, 60, 10, 5, 25, 25};
        int[] last = {5, 0, 600, 0, 5, 5, 5};
        for (int what = 0; what < 7; what++) {
            due("1 to 2 what " + what, x.piece(1, 1, 2, what), rest[what]);
            due("2 to 2 what " + what, x.piece(1, 2, 2, what), last[what]);
        }
        due("i above j", x.piece(1, 1, 0, 0), NONE);
        due("no such stop", x.piece(1, 0, 3, 0), NONE);
        due("no such stop", x.piece(1, 3, 3, 0), NONE);
        due("no such stop", x.piece(1, -1, 0, 0), NONE);
        due("what", x.piece(1, 0, 0, 7), NONE);
        due("what", x.piece(1, 0, 0, -1), NONE);
        due("van", x.piece(4, 0, 0, 0), NONE);
        due("van", x.piece(-1, 0, 0, 0), NONE);
        due("no stops", x.piece(0, 0, 0, 0), NONE);
        RoundSlack z = new RoundSlack();
        due("order", z.order(0, 0, 0, 10, 0), 0);
        due("order", z.order(0, 9, 20, 30, 0), 1);
        due("plan", plan(z, "0:0,1"), 2);
        int[] one = {10, 10, 10, 9, 0, 0, 0};
        for (int what = 0; what < 7; what++) {
            due("a wait of one hour " + what, z.piece(0, 0, 1, what), one[what]);
        }
        RoundSlack y = new RoundSlack();
        due("closes early", y.order(10, 0, 5, 20, 2), 0);
        due("opens late", y.order(20, 0, 100, 110, 3), 1);
        due("closes early behind that", y.order(30, 0, 0, 115, 4), 2);
        due("plan", plan(y, "0:0,1,2"), 3);
        // It must be begun at 20 and waits from 32 to 100 all the same.
        int[] waits = {83, 20, 20};
        int[] andOn = {97, 20, 20};
        for (int what = 0; what < 3; what++) {
            due("a wait that must be " + what, y.piece(0, 0, 1, what), waits[what]);
            due("and on " + what, y.piece(0, 0, 2, what), andOn[what]);
            due("late by what is behind " + what, y.piece(0, 1, 2, what), new int[] {17, 100, 102}[what]);
        }
    }

    private static void p21Whole() {
        promise = 21;
        RoundSlack x = square();
        due("van", x.van(1, 25, 3, 82), 1);
        due("plan", plan(x, "1:0,1,2"), 3);
        int[] want = {55, 25, 27, 40, 15, 25, 25};
        for (int what = 0; what < 7; what++) {
            due("whole " + what, x.whole(1, what), want[what]);
            due("no stops " + what, x.whole(0, what), new int[] {0, 0, 600, 0, 0, 0, 0}[what]);
        }
        due("what", x.whole(1, 7), NONE);
        due("what", x.whole(1, -1), NONE);
        due("van", x.whole(4, 0), NONE);
        due("van", x.whole(-1, 0), NONE);
        due("van", x.van(2, 25, 30, 40), 1);
        due("day's start", x.whole(2, 1), 30);
        due("day's end", x.whole(2, 2), 40);
        due("left later", x.van(3, 25, 28, 90), 1);
        due("plan", plan(x, "3:0,1,2"), 3);
        due("early is the day's start", x.whole(3, 1), 28);
        due("late", x.whole(3, 2), 35);
        due("top when it leaves", x.load(3, 0, 50), 0);
        due("plan", plan(x, "0:0,3"), 2);
        due("top", x.whole(0, 6), 60);
    }

    private static void p22Cost() {
        promise = 22;
        RoundSlack x = square();
        due("all are left", x.cost(-1), 2500);
        due("penalty", x.load(4, 2, 9), 500);
        due("plan", plan(x, "1:0,1,2"), 3);
        due("drive", x.cost(1), 40);
        due("all", x.cost(-1), 40 + 500 + 9);
        due("duration", x.price(1, 3), 0);
        due("fixed", x.price(2, 100), 0);
        due("drive", x.price(0, 2), 1);
        due("the van", x.cost(1), 100 + 2 * 40 + 3 * 55);
        due("no stops", x.cost(0), 0);
        due("all", x.cost(-1), 345 + 509);
        due("van", x.cost(4), NONE);
        due("van", x.cost(-2), NONE);
    }

    private static void p23Left() {
        promise = 23;
        RoundSlack x = line();
        due("all", x.left(), 15);
        due("put", x.put(1, 0, 0), 1);
        due("put", x.put(3, 2, 0), 1);
        due("two", x.left(), 5);
        due("plan", plan(x, "0:0,1,2,3"), 4);
        due("none", x.left(), 0);
    }

    private static void p24Put() {
        promise = 24;
        RoundSlack x = line();
        due("put", x.put(0, 1, 0), 1);
        due("ahead", x.put(1, 1, 0), 1);
        due("behind", x.put(2, 1, 2), 1);
        due("between", x.put(3, 1, 1), 1);
        dueRounds(x, "1:1,3,0,2");
        due("steps", x.told(3), 4);
        due("it isn't left", x.put(0, 0, 0), STATE);
        due("none ahead of state", x.put(0, 0, 1), NONE);
        due("order", x.put(4, 0, 0), NONE);
        due("order", x.put(-1, 0, 0), NONE);
        due("van", x.put(0, 4, 0), NONE);
        due("van", x.put(0, -1, 0), NONE);
        due("place", x.put(0, 1, 5), NONE);
        due("place", x.put(0, 1, -1), NONE);
        due("steps", x.told(3), 4);
        RoundSlack y = square();
        due("van", y.van(0, 10, 0, 40), 1);
        due("closes", y.put(4, 1, 0), NOT);
        due("full as it leaves", y.put(0, 0, 0), 1);
        due("too full behind a stop", y.put(1, 0, 1), NOT);
        due("too full as it leaves", y.put(2, 0, 1), NOT);
        due("back in time", y.put(3, 0, 1), NOT);
        due("steps", y.told(3), 1);
        dueRounds(y, "0:0");
        due("van", y.van(2, 0, 0, 40), 1);
        due("just in time", y.put(3, 2, 0), 1);
    }

    private static void p25Would() {
        promise = 25;
        RoundSlack x = line();
        due("fixed", x.price(2, 7), 0);
        due("into none", x.would(1, 0, 0), 47);
        due("put", x.put(1, 0, 0), 1);
        due("on the way", x.would(0, 0, 0), 0);
        due("on the way back", x.would(0, 0, 1), 0);
        due("farther", x.would(3, 0, 1), 40);
        due("no change", x.stops(0), 1);
        due("not left", x.would(1, 0, 0), NO);
        due("order", x.would(4, 0, 0), NO);
        due("order", x.would(-1, 0, 0), NO);
        due("van", x.would(0, 4, 0), NO);
        due("van", x.would(0, -1, 0), NO);
        due("place", x.would(0, 0, 2), NO);
        due("place", x.would(0, 0, -1), NO);
        due("van", x.van(1, 100, 0, 79), 1);
        due("not good", x.would(3, 1, 0), NO);
        due("good", x.would(2, 1, 0), 67);
        due("duration", x.price(1, 2), 0);
        due("with duration", x.would(3, 0, 0), 40 + 2 * 40);
    }

    private static void p26Take() {
        promise = 26;
        RoundSlack x = line();
        due("plan", plan(x, "2:3,1,0"), 3);
        due("take", x.take(1), 2);
        dueRounds(x, "2:3,0");
        due("left", x.left(), 6);
        due("steps", x.told(3), 1);
        due("again", x.take(1), STATE);
        due("last", x.take(0), 2);
        due("first", x.take(3), 2);
        dueRounds(x, "");
        due("order", x.take(4), NONE);
        due("order", x.take(-1), NONE);
        due("steps", x.told(3), 3);
    }

    /** Two orders that cost no driving. */
    private static RoundSlack atTheDepot() {
        RoundSlack x = new RoundSlack();
        due("order", x.order(0, 0, 0, 600, 0), 0);
        due("order", x.order(0, 0, 0, 600, 0), 1);
        return x;
    }

    private static RoundSlack crossed() {
        RoundSlack x = line();
        due("van", x.van(3, 100, 0, 59), 1);
        due("plan", plan(x, "0:3,0;1:1,2"), 4);
        return x;
    }

    private static void p27May() {
        promise = 27;
        RoundSlack x = crossed();
        due("shift", x.may(0, 0, 0, 0), 1);
        due("shift to where it is", x.may(0, 0, 0, 1), 0);
        due("shift behind its round", x.may(0, 0, 0, 2), NONE);
        due("shift to another", x.may(0, 0, 1, 2), 1);
        due("shift behind another", x.may(0, 0, 1, 3), NONE);
        due("shift to none", x.may(0, 1, 3, 0), 1);
        due("shift, too late back", x.may(0, 2, 3, 0), 0);
        due("shift to no place", x.may(0, 0, 0, -1), NONE);
        due("shift, no van", x.may(0, 0, 4, 0), NONE);
        due("shift, no van", x.may(0, 0, -1, 0), NONE);
        due("shift, no order", x.may(0, 4, 0, 0), NONE);
        due("shift, no order", x.may(0, -1, 0, 0), NONE);
        due("swap", x.may(1, 0, 1, 0), 1);
        due("swap in one", x.may(1, 0, 3, 0), 1);
        due("swap, a is above", x.may(1, 1, 0, 0), NONE);
        due("swap, a is b", x.may(1, 1, 1, 0), NONE);
        due("swap, c isn't 0", x.may(1, 0, 1, 1), NONE);
        due("swap, no order", x.may(1, 0, 4, 0), NONE);
        due("swap, no order", x.may(1, -1, 0, 0), NONE);
        due("cross", x.may(2, 0, 1, 17), 1);
        due("cross whole rounds", x.may(2, 0, 1, 0), 1);
        due("cross nothing", x.may(2, 0, 1, 34), 0);
        due("cross all with none", x.may(2, 0, 2, 0), 1);
        due("cross, too late back", x.may(2, 0, 3, 0), 0);
        due("cross none with none", x.may(2, 2, 3, 0), 0);
        due("cross, i too great", x.may(2, 0, 1, 3), NONE);
        due("cross, j too great", x.may(2, 0, 1, 48), NONE);
        due("cross, c below 0", x.may(2, 0, 1, -1), NONE);
        due("cross, c below 0", x.may(2, 0, 1, -16), NONE);
        due("cross, a is above", x.may(2, 1, 0, 0), NONE);
        due("cross, a is b", x.may(2, 1, 1, 0), NONE);
        due("cross, no van", x.may(2, 0, 4, 0), NONE);
        due("cross, no van", x.may(2, -1, 0, 0), NONE);
        due("turn", x.may(3, 0, 0, 1), 1);
        due("turn one alone", x.may(3, 0, 1, 1), NONE);
        due("turn, b above c", x.may(3, 0, 1, 0), NONE);
        due("turn, no stop", x.may(3, 0, 0, 2), NONE);
        due("turn, no stop", x.may(3, 0, -1, 1), NONE);
        due("turn, no van", x.may(3, 4, 0, 1), NONE);
        due("turn, no van", x.may(3, -1, 0, 1), NONE);
        due("kind", x.may(4, 0, 1, 0), NONE);
        due("kind", x.may(-1, 0, 1, 0), NONE);
        due("take", x.take(0), 0);
        due("shift one that is left", x.may(0, 0, 0, 0), NONE);
        due("swap one that is left", x.may(1, 0, 1, 0), NONE);
        due("swap one that is left", x.may(1, 1, 0, 0), NONE);
        dueRounds(x, "0:3;1:1,2");
        RoundSlack y = square();
        due("plan", plan(y, "0:1,0"), 2);
        due("turn, none too late", y.may(3, 0, 0, 1), 1);
        due("van", y.van(1, 9, 0, 600), 1);
        due("too full", y.may(0, 0, 1, 0), 0);
    }

    private static void p28Gain() {
        promise = 28;
        RoundSlack x = crossed();
        due("fixed", x.price(2, 10), 0);
        due("cost", x.cost(-1), 160);
        due("shift", x.gain(0, 0, 1, 0), 0);
        due("shift, less", x.gain(0, 3, 1, 2), 40);
        due("shift, more", x.gain(0, 1, 2, 0), -50);
        due("shift, no such", x.gain(0, 0, 0, 2), NO);
        due("shift, nothing", x.gain(0, 0, 0, 1), NO);
        due("shift, not good", x.gain(0, 2, 3, 0), NO);
        due("swap", x.gain(1, 2, 3, 0), 0);
        due("cross to one", x.gain(2, 0, 1, 32), 70);
        due("cross, nothing", x.gain(2, 0, 1, 34), NO);
        due("turn", x.gain(3, 0, 0, 1), 0);
        due("kind", x.gain(4, 0, 1, 0), NO);
        due("swap, no such", x.gain(1, 2, 1, 0), NO);
        dueRounds(x, "0:3,0;1:1,2");
    }

    private static void p29Move() {
        promise = 29;
        RoundSlack x = crossed();
        due("shift", x.move(0, 0, 1, 1), 1);
        dueRounds(x, "0:3;1:1,0,2");
        due("shift in one", x.move(0, 1, 1, 2), 1);
        dueRounds(x, "0:3;1:0,2,1");
        due("shift back", x.move(0, 1, 1, 0), 1);
        dueRounds(x, "0:3;1:1,0,2");
        due("swap in two", x.move(1, 2, 3, 0), 1);
        dueRounds(x, "0:2;1:1,0,3");
        due("swap in one", x.move(1, 1, 3, 0), 1);
        dueRounds(x, "0:2;1:3,0,1");
        due("cross", x.move(2, 0, 1, 0 + 16), 1);
        dueRounds(x, "0:0,1;1:3,2");
        due("turn", x.move(3, 1, 0, 1), 1);
        dueRounds(x, "0:0,1;1:2,3");
        due("cross all to one", x.move(2, 0, 1, 2), 1);
        dueRounds(x, "0:0,1,2,3");
        due("turn", x.move(3, 0, 1, 3), 1);
        dueRounds(x, "0:0,3,2,1");
        due("steps", x.told(3), 9);
        due("nothing", x.move(0, 0, 0, 0), STATE);
        due("nothing", x.move(2, 0, 1, 4), STATE);
        due("nothing", x.move(2, 1, 2, 0), STATE);
        due("not good", x.move(0, 3, 3, 0), NOT);
        due("not good", x.move(2, 0, 3, 0), NOT);
        due("none", x.move(0, 0, 0, 4), NONE);
        notGoodInTheFirst();
        crossTwelve();
        due("none", x.move(1, 1, 0, 0), NONE);
        due("none", x.move(2, 0, 1, 5), NONE);
        due("none", x.move(3, 0, 0, 4), NONE);
        due("kind", x.move(4, 0, 0, 0), NONE);
        due("kind", x.move(-1, 0, 0, 0), NONE);
        due("steps", x.told(3), 9);
        dueRounds(x, "0:0,3,2,1");
    }

    private static void notGoodInTheFirst() {
        RoundSlack y = square();
        due("plan", plan(y, "0:1,3;1:2"), 3);
        due("turn", y.move(3, 0, 0, 1), 1);
        due("turn back", y.move(3, 0, 0, 1), 1);
        due("order", y.order(0, 1, 0, 1, 0), 5);
        due("plan", plan(y, "0:5,3"), 2);
        due("turn, too late then", y.move(3, 0, 0, 1), NOT);
        due("swap, too late then", y.move(1, 3, 5, 0), NOT);
        due("steps", y.told(3), 0);
        due("plan", plan(y, "0:5;1:2"), 2);
        due("shift in front", y.move(0, 2, 0, 0), NOT);
        due("cross in front", y.move(2, 0, 1, 0), 1);
        dueRounds(y, "0:2;1:5");
        due("cross behind", y.move(2, 0, 1, 1), NOT);
    }

    private static void crossTwelve() {
        RoundSlack y = new RoundSlack();
        for (int i = 0; i < 12; i++) {
            due("order", y.order(i, 0, 0, 600, 0), i);
        }
        due("plan", plan(y, "1:0,1,2,3,4,5,6,7,8,9;2:10,11"), 12);
        due("twelve", y.may(2, 1, 2, 10), 1);
        due("twelve in one", y.move(2, 1, 2, 10), 1);
        dueRounds(y, "1:0,1,2,3,4,5,6,7,8,9,10,11");
        due("twelve to another", y.move(2, 1, 3, 0), 1);
        dueRounds(y, "3:0,1,2,3,4,5,6,7,8,9,10,11");
        due("and back", y.move(2, 0, 3, 16 * 11), 1);
        dueRounds(y, "0:11;3:0,1,2,3,4,5,6,7,8,9,10");
    }

    private static void p30Best() {
        promise = 30;
        RoundSlack x = crossed();
        // Order 3 between 1 and 2 costs as little as behind them; all behind van 1's saves 60.
        int[] shift = {3, 1, 1, 40};
        int[] cross = {0, 1, 32, 60};
        for (int what = 0; what < 4; what++) {
            due("shift " + what, x.best(0, what), shift[what]);
            due("swap " + what, x.best(1, what), new int[] {0, 2, 0, 20}[what]);
            due("cross " + what, x.best(2, what), cross[what]);
            due("turn " + what, x.best(3, what), LACK);
        }
        due("what", x.best(0, 4), NONE);
        due("what", x.best(0, -1), NONE);
        due("kind", x.best(4, 0), NONE);
        due("kind", x.best(-1, 0), NONE);
        dueRounds(x, "0:3,0;1:1,2");
        due("steps", x.told(3), 0);
        RoundSlack y = square();
        due("plan", plan(y, "0:0,2,3"), 3);
        for (int what = 0; what < 4; what++) {
            due("turn " + what, y.best(3, what), new int[] {0, 0, 1, 20}[what]);
        }
        due("no orders", new RoundSlack().best(2, 0), LACK);
        RoundSlack z = atTheDepot();
        due("fixed", z.price(2, 1), 0);
        due("plan", plan(z, "0:0;1:1"), 2);
        due("1 less", z.best(0, 3), 1);
        due("by c as well", z.best(0, 2), 0);
        due("none by a swap", z.best(1, 3), LACK);
    }

    private static void p31Descent() {
        promise = 31;
        RoundSlack x = crossed();
        due("0", x.descent(0), BAD);
        due("41", x.descent(41), BAD);
        due("-1", x.descent(-1), BAD);
        due("one", x.descent(1), 1);
        dueRounds(x, "0:0;1:1,3,2");
        due("steps", x.told(3), 1);
        due("more", x.descent(40), 1);
        due("cost", x.cost(-1), 80);
        dueRounds(x, "1:0,1,3,2");
        due("steps", x.told(3), 2);
        due("none is better", x.descent(40), 0);
        due("steps", x.told(3), 2);
        due("back", x.back(), 1);
        dueRounds(x, "0:0;1:1,3,2");
        RoundSlack z = atTheDepot();
        due("fixed", z.price(2, 1), 0);
        due("plan", plan(z, "0:0;1:1"), 2);
        due("1 less is less", z.descent(3), 1);
        dueRounds(z, "1:0,1");
        RoundSlack y = crossed();
        due("two at once", y.descent(2), 2);
        due("are one step", y.told(3), 1);
        dueRounds(y, "1:0,1,3,2");
        due("back", y.back(), 0);
        dueRounds(y, "0:3,0;1:1,2");
    }

    private static void p32Many() {
        promise = 32;
        RoundSlack x = crossed();
        // To where they are otherwise: 1 in their own van, 3 in the other, 1 in van 2; 0 and 1 in van 3.
        due("shifts", x.many(0), 4 * 5 + 2);
        due("swaps", x.many(1), 6);
        // Of 9 one is nothing; with van 2 all but one; with van 3 a tail that is back in time.
        due("crosses", x.many(2), 8 + 2 + 2 + 1 + 0);
        due("turns", x.many(3), 2);
        due("kind", x.many(4), NONE);
        due("kind", x.many(-1), NONE);
        due("none", new RoundSlack().many(0), 0);
        due("none", new RoundSlack().many(2), 0);
        dueRounds(x, "0:3,0;1:1,2");
    }

    private static void p33Priced() {
        promise = 33;
        RoundSlack x = line();
        due("fixed", x.price(2, 7), 0);
        due("van", x.van(3, 100, 0, 79), 1);
        due("put", x.put(1, 0, 0), 1);
        due("on the way", x.priced(0, 0), 0);
        due("farther", x.priced(3, 0), 40);
        due("into none", x.priced(3, 1), 87);
        due("never", x.priced(3, 3), LACK);
        due("not left", x.priced(1, 0), STATE);
        due("order", x.priced(4, 0), NONE);
        due("order", x.priced(-1, 0), NONE);
        due("van", x.priced(0, 4), NONE);
        due("van", x.priced(1, -1), NONE);
        due("stops", x.stops(0), 1);
    }

    private static void p34Placed() {
        promise = 34;
        RoundSlack x = square();
        due("van", x.van(3, 100, 0, 79), 1);
        due("plan", plan(x, "0:0,2;1:2"), -108);
        due("plan", plan(x, "0:0,2"), 2);
        due("between", x.placed(1, 0), 1);
        due("behind 0", x.placed(3, 0), 0);
        due("none", x.placed(3, 1), 0);
        due("never", x.placed(4, 3), LACK);
        due("not left", x.placed(0, 0), STATE);
        due("order", x.placed(5, 0), NONE);
        due("order", x.placed(-1, 0), NONE);
        due("van", x.placed(1, 4), NONE);
        due("van", x.placed(1, -1), NONE);
        due("plan", plan(x, "0:1"), 1);
        due("close by 60 keeps 4 behind", x.placed(4, 0), LACK);
        due("of like prices the first", x.placed(2, 0), 0);
    }

    private static void p35Regret() {
        promise = 35;
        RoundSlack x = line();
        due("van", x.van(3, 100, 0, 59), 1);
        due("plan", plan(x, "0:1;1:0"), 2);
        // Prices of 3 in the vans: 40, 60, 80, never.
        due("by 1", x.regret(3, 1), 0);
        due("by 2", x.regret(3, 2), 20);
        due("by 3", x.regret(3, 3), 60);
        due("by 4", x.regret(3, 4), 60 + 99960);
        due("not left", x.regret(1, 2), STATE);
        due("bad ahead of state", x.regret(1, 5), BAD);
        due("k", x.regret(3, 0), BAD);
        due("k", x.regret(3, 5), BAD);
        due("order", x.regret(4, 0), NONE);
        due("order", x.regret(-1, 1), NONE);
        RoundSlack y = square();
        for (int v = 0; v < 4; v++) {
            due("van", y.van(v, 100, 0, 150), 1);
        }
        due("never in all", y.regret(4, 4), 0);
        due("put", y.put(3, 2, 0), 1);
        // Order 0 is on the way of van 2 and costs 20 in each other.
        due("a later van is the least", y.regret(0, 2), 20);
        due("all", y.regret(0, 4), 60);
    }

    private static void p36First() {
        promise = 36;
        RoundSlack x = line();
        due("regret alike, the least price", x.first(1), 0);
        due("put", x.put(1, 0, 0), 1);
        // Regrets by 2: 0: 20 - 0, 2: 60 - 20, 3: 80 - 40; of 2 and 3 that with the least price.
        due("by 2", x.first(2), 2);
        due("by 1", x.first(1), 0);
        due("plan", plan(x, "0:3"), 1);
        // All are on the way of van 0, so 2 regrets most.
        due("by 2", x.first(2), 2);
        due("by 4", x.first(4), 2);
        due("all have price 0", x.first(1), 0);
        due("k", x.first(0), BAD);
        due("k", x.first(5), BAD);
        dueRounds(x, "0:3");
        due("plan", plan(x, "0:0,1,2,3"), 4);
        due("none", x.first(1), LACK);
        RoundSlack y = square();
        due("plan", plan(y, "0:0,2,3"), 3);
        for (int v = 1; v < 4; v++) {
            due("van", y.van(v, 0, 0, 40), 1);
        }
        due("1 comes to van 0 alone", y.first(2), 1);
        due("plan", plan(y, "0:0,1,2,3"), 4);
        due("4 has no price", y.first(2), LACK);
        RoundSlack z = new RoundSlack();
        due("order", z.order(0, 9, 0, 600, 0), 0);
        due("order", z.order(0, 8, 0, 600, 0), 1);
        due("order", z.order(0, 7, 0, 600, 0), 2);
        due("order", z.order(0, 7, 0, 600, 0), 3);
        due("regrets by 1 are alike: least price, then least order", z.first(1), 2);
        due("by 4, too", z.first(4), 2);
        due("put", z.put(0, 3, 0), 1);
        // On the way of van 3: regrets by 2 are what another van costs, 16, 14, 14.
        due("greatest regret, not least order", z.first(2), 1);
        due("put", z.put(1, 3, 0), 1);
        due("of like ones the least order", z.first(2), 2);
    }

    private static void p37Fill() {
        promise = 37;
        RoundSlack x = line();
        due("put", x.put(3, 1, 0), 1);
        due("fill", x.fill(2), 3);
        dueRounds(x, "1:0,1,2,3");
        due("one step", x.told(3), 2);
        due("none", x.fill(2), 0);
        due("steps", x.told(3), 2);
        due("k", x.fill(0), BAD);
        due("k", x.fill(5), BAD);
        due("back", x.back(), 1);
        dueRounds(x, "1:3");
        RoundSlack y = square();
        for (int v = 0; v < 4; v++) {
            due("van", y.van(v, 10, 0, 75), 1);
        }
        // 1 is too much for any van, 4 too far; of like vans the first, 3 lies behind 0.
        due("fill", y.fill(1), 3);
        dueRounds(y, "0:3,0;1:2");
        due("left", y.left(), 18);
        RoundSlack z = new RoundSlack();
        due("order", z.order(1, 0, 0, 600, 0), 0);
        due("one alone", z.fill(4), 1);
        due("is a step", z.told(3), 1);
        due("van 0 has it", z.told(2), 1);
        dueRounds(z, "0:0");
    }

    private static void p38Ruin() {
        promise = 38;
        RoundSlack x = line();
        due("order", x.order(30, 0, 0, 600, 0), 4);
        due("plan", plan(x, "0:3,0;2:4,1,2"), 5);
        due("one: the lesser of like ones", x.ruin(4, 1), 1);
        dueRounds(x, "0:3,0;2:4,1");
        due("steps", x.told(3), 1);
        due("itself, then the lesser of 1 and 3", x.ruin(4, 2), 2);
        dueRounds(x, "0:3,0");
        due("around one that is left", x.ruin(2, 1), 1);
        dueRounds(x, "0:0");
        due("all, if there are fewer", x.ruin(3, 12), 1);
        dueRounds(x, "");
        due("none there", x.ruin(3, 12), 0);
        due("steps", x.told(3), 4);
        due("order", x.ruin(5, 0), NONE);
        due("order", x.ruin(-1, 1), NONE);
        due("n", x.ruin(0, 0), BAD);
        due("n", x.ruin(0, 13), BAD);
        due("back", x.back(), 3);
        due("back", x.back(), 2);
        dueRounds(x, "0:3,0");
    }

    private static void p39Again() {
        promise = 39;
        RoundSlack x = crossed();
        due("cost", x.cost(-1), 140);
        due("60 less", x.again(0, 12, 2), 60);
        due("cost", x.cost(-1), 80);
        due("one step", x.told(3), 1);
        due("none is less", x.again(1, 2, 2), 0);
        due("steps", x.told(3), 1);
        due("back", x.back(), 0);
        dueRounds(x, "0:3,0;1:1,2");
        due("order", x.again(4, 0, 0), NONE);
        due("order", x.again(-1, 1, 1), NONE);
        due("n", x.again(0, 0, 1), BAD);
        due("n", x.again(0, 13, 1), BAD);
        due("k", x.again(0, 1, 0), BAD);
        due("k", x.again(0, 1, 5), BAD);
        due("cheap to leave", x.take(3), 0);
        due("penalty", x.load(3, 2, 0), 500);
        due("plan", plan(x, "0:0,1,2"), 3);
        due("3 would come, but costs more", x.again(0, 1, 1), 0);
        dueRounds(x, "0:0,1,2");
        due("steps", x.told(3), 0);
        due("ruin", x.ruin(0, 12), 3);
        due("none to take out, all come", x.again(0, 1, 1), 1500 - 80);
        RoundSlack y = atTheDepot();
        due("penalty", y.load(0, 2, 1), 500);
        due("penalty", y.load(1, 2, 1), 500);
        due("fixed", y.price(2, 1), 0);
        due("1 less", y.again(0, 1, 1), 1);
        due("cost", y.cost(-1), 1);
        due("steps", y.told(3), 1);
    }

    private static void p40Back() {
        promise = 40;
        RoundSlack x = line();
        due("none", x.back(), STATE);
        due("put", x.put(0, 0, 0), 1);
        due("move", x.move(0, 0, 1, 0), 1);
        due("back", x.back(), 1);
        dueRounds(x, "0:0");
        due("back", x.back(), 0);
        dueRounds(x, "");
        due("none", x.back(), STATE);
        for (int i = 0; i < 9; i++) {
            due("put", x.put(i % 4, 3, 0), 1);
            due("take", x.take(i % 4), 3);
        }
        due("put", x.put(3, 3, 0), 1);
        due("16 at most", x.told(3), 16);
        for (int i = 15; i >= 0; i--) {
            due("back", x.back(), i);
        }
        dueRounds(x, "3:1");
        due("none", x.back(), STATE);
        due("put", x.put(0, 0, 0), 1);
        due("price", x.price(0, 5), 1);
        due("image", x.image(), 4);
        due("prices and the image forget none", x.told(3), 1);
        due("undo", x.undo(), 4);
        due("undo forgets", x.back(), STATE);
    }

    private static void p41Told() {
        promise = 41;
        RoundSlack x = line();
        due("depot", x.depot(7, 8), 1);
        due("prices", x.price(0, 3) + x.price(1, 4) + x.price(2, 5), 1);
        for (int v = 0; v < 4; v++) {
            due("van", x.van(v, 50 + v, 10 + v, 300 + v), 1);
        }
        due("put", x.put(0, 1, 0), 1);
        due("put", x.put(1, 3, 0), 1);
        due("put", x.put(2, 3, 0), 1);
        due("spell", x.spell(), 9);
        text(x, "ab");
        int[] want = {4, 1, 10, 3, 2, 9, 3, 4, 5, 7, 8, -1, -1, -1, -1, -1, -1, -1, -1, -1,
            50, 51, 52, 53, 10, 11, 12, 13, 300, 301, 302, 303, -1};
        for (int i = 0; i < want.length; i++) {
            due("told " + i, x.told(i), want[i]);
        }
        due("told -1", x.told(-1), NONE);
        due("told least", x.told(Integer.MIN_VALUE), NONE);
    }

    private static void p42Row() {
        promise = 42;
        RoundSlack x = new RoundSlack();
        due("row", x.row(0, 40), 1);
        due("last", x.get(0, 39), 0);
        due("set", x.set(0, 0, 4), 1);
        due("set", x.set(0, 1, 5), 1);
        due("anew", x.row(0, 2), 1);
        due("all 0", x.get(0, 0), 0);
        due("all 0", x.get(0, 1), 0);
        due("shorter", x.get(0, 2), NO);
        due("row 3", x.row(3, 0), 1);
        due("of none", x.get(3, 0), NO);
        due("of none", x.set(3, 0, 1), BEYOND);
        due("no row", x.row(4, 41), NONE);
        due("no row", x.row(-1, -1), NONE);
        due("too long", x.row(0, 41), BAD);
        due("below", x.row(0, -1), BELOW);
        due("it stays", x.get(0, 1), 0);
    }

    private static void p43Set() {
        promise = 43;
        RoundSlack x = new RoundSlack();
        due("nothing", x.set(1, 0, 1), NOTHING);
        due("row", x.row(1, 3), 1);
        due("set", x.set(1, 0, Integer.MIN_VALUE), 1);
        due("set", x.set(1, 2, Integer.MAX_VALUE), 1);
        due("get", x.get(1, 0), Integer.MIN_VALUE);
        due("get", x.get(1, 2), Integer.MAX_VALUE);
        due("get", x.get(1, 1), 0);
        due("beyond", x.set(1, 3, 1), BEYOND);
        due("beyond", x.set(1, -1, 1), BEYOND);
        due("no row", x.set(4, 0, 1), NONE);
        due("no row", x.set(-1, 0, 1), NONE);
        due("nothing in another", x.set(0, 0, 1), NOTHING);
    }

    private static void p44Get() {
        promise = 44;
        RoundSlack x = new RoundSlack();
        due("nothing", x.get(0, 0), NO);
        due("row", x.row(0, 2), 1);
        due("set", x.set(0, 1, -9), 1);
        due("get", x.get(0, 1), -9);
        due("beyond", x.get(0, 2), NO);
        due("ahead", x.get(0, -1), NO);
        due("no row", x.get(4, 0), NO);
        due("no row", x.get(-1, 0), NO);
    }

    private static void p45Lay() {
        promise = 45;
        RoundSlack x = line();
        due("plan", plan(x, "0:3,1;2:0"), 3);
        due("nothing", x.lay(0, 0), NOTHING);
        due("no row", x.lay(4, 0), NONE);
        due("no row", x.lay(-1, 0), NONE);
        due("row", x.row(0, 9), 1);
        due("set", x.set(0, 0, 77), 1);
        due("set", x.set(0, 8, 78), 1);
        due("lay", x.lay(0, 1), 7);
        int[] want = {77, 3, 1, -1, -1, 0, -1, -1, 78};
        for (int i = 0; i < 9; i++) {
            due("place " + i, x.get(0, i), want[i]);
        }
        due("just room", x.lay(0, 2), 7);
        due("one too few", x.lay(0, 3), BEYOND);
        int[] then = {77, 3, 3, 3, 1, -1, -1, 0, -1};
        for (int i = 0; i < 9; i++) {
            due("place " + i, x.get(0, i), then[i]);
        }
        due("ahead", x.lay(0, -1), BEYOND);
        due("ahead", x.lay(0, Integer.MIN_VALUE), BEYOND);
        due("behind", x.lay(0, 9), BEYOND);
        due("far behind", x.lay(0, Integer.MAX_VALUE), BEYOND);
        for (int i = 0; i < 9; i++) {
            due("none was laid " + i, x.get(0, i), then[i]);
        }
        due("one place", x.lay(0, 8), BEYOND);
        due("the first one has it", x.get(0, 8), 3);
        due("row of none", x.row(1, 0), 1);
        due("no room", x.lay(1, 0), BEYOND);
        RoundSlack y = new RoundSlack();
        due("row", y.row(0, 4), 1);
        due("no stops", y.lay(0, 0), 4);
    }

    private static void row(RoundSlack x, int row, int... ints) {
        due("row", x.row(row, ints.length), 1);
        for (int i = 0; i < ints.length; i++) {
            due("set", x.set(row, i, ints[i]), 1);
        }
    }

    private static void p46Judge() {
        promise = 46;
        RoundSlack x = line();
        due("plan", plan(x, "0:3"), 1);
        due("no row", x.judge(4, 0), NONE);
        due("no row", x.judge(-1, 0), NONE);
        due("nothing", x.judge(0, 0), STATE);
        row(x, 0, 9, 1, 0, -1, 2, -1, -1, -1, 99);
        due("cost", x.judge(0, 1), 40 + 60 + 500);
        due("an order that isn't there", x.judge(0, 0), BAD);
        due("from behind", x.judge(0, 2), 20 + 60 + 1000);
        due("three alone", x.judge(0, 4), STATE);
        due("i below 0", x.judge(0, -1), STATE);
        due("i below 0", x.judge(0, Integer.MIN_VALUE), STATE);
        due("i behind it", x.judge(0, 9), STATE);
        due("i far behind it", x.judge(0, Integer.MAX_VALUE), STATE);
        row(x, 1, 1, -1, 1, -1, -1, -1);
        due("told twice", x.judge(1, 0), BAD);
        row(x, 1, 1, -1, -2, -1, -1, -1);
        due("no such order", x.judge(1, 0), BAD);
        row(x, 1, 1, -1, 4, -1, -1);
        due("state ahead of bad", x.judge(1, 0), STATE);
        row(x, 1, -1, -1, -1, -1, 4);
        due("behind the fourth there may be all", x.judge(1, 0), 2000);
        due("van", x.van(1, 100, 0, 79), 1);
        row(x, 1, -1, 3, -1, -1, -1);
        due("too late", x.judge(1, 0), NOT);
        row(x, 1, -1, 3, 3, -1, -1, -1);
        due("bad ahead of not", x.judge(1, 0), BAD);
        row(x, 1, -1, 2, -1, -1, 3, -1);
        due("in time, with prices", x.price(2, 100), 0);
        due("in time", x.judge(1, 0), 160 + 180 + 1000);
        dueRounds(x, "0:3");
        row(x, 2);
        due("row of none", x.judge(2, 0), STATE);
    }

    private static void p47Image() {
        promise = 47;
        RoundSlack x = new RoundSlack();
        due("none", x.image(), 0);
        due("order", x.order(1, 1, 0, 600, 0), 0);
        due("put", x.put(0, 0, 0), 1);
        due("one", x.image(), 1);
        due("steps stay", x.told(3), 1);
        due("take", x.take(0), 0);
        due("undo", x.undo(), 1);
        dueRounds(x, "0:0");
    }

    private static void p48Undo() {
        promise = 48;
        RoundSlack x = square();
        due("none", x.undo(), STATE);
        due("depot", x.depot(2, 3), 1);
        due("van", x.van(1, 50, 5, 500), 1);
        due("prices", x.price(0, 2) + x.price(1, 3) + x.price(2, 4), 1);
        due("plan", plan(x, "0:0;1:1"), 2);
        due("cost", x.cost(-1), 0 + costHere(x));
        int cost = x.cost(-1);
        due("image", x.image(), 5);
        due("plan", plan(x, "3:2"), 1);
        due("take", x.take(2), 3);
        due("depot", x.depot(9, 9), 1);
        due("load", x.load(0, 0, 44), 10);
        due("load", x.load(1, 1, 44), 20);
        due("load", x.load(4, 2, 44), 500);
        due("order", x.order(1, 1, 1, 1, 1), 5);
        due("vans", x.van(0, 1, 2, 3) + x.van(1, 4, 5, 6), 2);
        due("prices", x.price(0, 0) + x.price(1, 0) + x.price(2, 0), 9);
        due("row", x.row(0, 3), 1);
        due("set", x.set(0, 0, 66), 1);
        text(x, "x");
        due("put", x.put(3, 2, 0), 1);
        due("spell", x.spell(), 3);
        due("undo", x.undo(), 5);
        dueRoundsAfterUndo(x, cost);
        due("put", x.put(3, 2, 0), 1);
        due("undo again", x.undo(), 5);
        due("steps forgotten", x.told(3), 0);
        due("cost", x.cost(-1), cost);
    }

    private static int costHere(RoundSlack x) {
        int all = 3 * 500;
        for (int v = 0; v < 4; v++) {
            all += x.stops(v) == 0 ? 0 : 4 + 2 * x.whole(v, 3) + 3 * x.whole(v, 0);
        }
        return all;
    }

    private static void dueRoundsAfterUndo(RoundSlack x, int cost) {
        due("the tape stays", x.told(4), 1);
        due("the paper stays", x.told(5), 3);
        due("the paper stays", x.paper(0), '2');
        due("the row stays", x.get(0, 0), 66);
        due("steps forgotten", x.back(), STATE);
        dueRounds(x, "0:0;1:1");
        due("cost", x.cost(-1), cost);
        due("orders", x.told(0), 5);
        due("an order that came later", x.of(5, 0), NONE);
        due("depot", x.told(9), 2);
        due("depot", x.told(10), 3);
        due("way", x.way(-1, 0), 9);
        due("down", x.of(0, 5), 10);
        due("up", x.of(1, 6), 20);
        due("penalty", x.of(4, 7), 500);
        int[] want = {100, 50, 100, 100, 0, 5, 0, 0, 600, 500, 600, 600};
        for (int i = 0; i < 12; i++) {
            due("told " + (20 + i), x.told(20 + i), want[i]);
        }
        due("drive", x.told(6), 2);
        due("duration", x.told(7), 3);
        due("fixed", x.told(8), 4);
    }
}
