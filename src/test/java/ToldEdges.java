/** Promises 1 to 14: what is told. */
final class ToldEdges extends Edges {
    private static final String REFUSED = "What is answered so changes nothing (but ROWS by BEYOND, as told)";
    private static final String GOES_ON = "otherwise the place (from 0) of the first byte with which no such text goes on";
    private static final String TOO_EARLY = "the length, if it ends too early";
    private static final String NO_BLANKS = "(in both texts no blanks stand anywhere)";
    private static final String FIGURES = "(numbers of 1 to 3 figures; in both texts no more are taken than may be,"
            + " and looked at ahead of the byte behind)";
    private static final String NOT_ALLOWED = "of a number that may not be (CLOSE below OPEN, a VAN not higher,"
            + " an ORDER that isn't there or was told), where it begins";
    private static final String DOES_NOTHING = "A text with a FAULT does nothing";
    private static final String EMPTY_BEHIND = "THE TAPE is empty behind each call that reads it";
    private static final String PART = "x , y @ OPEN - CLOSE / SERVICE, then, if one likes, d DOWN, then, if one likes,"
            + " u UP";

    @Override
    void all() {
        p1NewObject();
        p2Depot();
        p3Order();
        p4Load();
        p5Van();
        p6Price();
        p7Feed();
        p8Clear();
        p9Orders();
        p9Faults();
        p10Plan();
        p10Faults();
        p11Spell();
        p12Paper();
        p13Way();
        p14Of();
    }

    /** Two steps that leave ROUNDS empty. */
    private static void twoSteps(RoundSlack x) {
        due(x.put(0, 0, 0), 1);
        due(x.take(0), 0);
        due(x.told(3), 2);
    }

    private static void dueNoSteps(RoundSlack x) {
        due(x.told(3), 0);
        due(x.back(), STATE);
    }

    private static void p1NewObject() {
        edge(1, "No ORDERS", "none at all", x -> {
            due(x.told(0), 0);
            due(x.told(1), 0);
            due(x.left(), 0);
            due(x.of(0, 0), NONE);
            due(x.cost(-1), 0);
        });
        edge(1, "No ORDERS", "also when another object has some", x -> {
            RoundSlack other = new RoundSlack();
            line(other, 3);
            due(x.told(0), 0);
            due(x.order(1, 1, 1, 1, 1), 0);
            due(other.told(0), 3);
        });
        edge(1, "THE DEPOT has a place x, y (0 .. 40 each; 0, 0 at first)", "at first", x -> {
            due(x.told(9), 0);
            due(x.told(10), 0);
            due(x.order(3, 4, 0, 0, 0), 0);
            due(x.way(-1, 0), 7);
        });
        edge(1, "PENALTY (0 .. 9999; 500 at first)", "at first", x -> {
            due(x.order(0, 0, 0, 0, 0), 0);
            due(x.of(0, 7), 500);
            due(x.cost(-1), 500);
        });
        edge(1, "VANS 0 .. 3: CAPACITY (0 .. 200; 100 at first)", "at first", x -> {
            for (int van = 0; van < 4; van++) due(x.told(20 + van), 100);
        });
        edge(1, "START and END of the DAY (0 .. 999, END not below START; 0 and 600 at first)", "at first", x -> {
            for (int van = 0; van < 4; van++) {
                due(x.told(24 + van), 0);
                due(x.told(28 + van), 600);
            }
        });
        edge(1, "PRICES of DRIVE and of DURATION (0 .. 9; 1 and 0 at first)", "at first", x -> {
            due(x.told(6), 1);
            due(x.told(7), 0);
        });
        edge(1, "FIXED (0 .. 999; 0 at first)", "at first", x -> due(x.told(8), 0));
        edge(1, "Each VAN has a ROUND: a row of ORDERS (none at first), its STOPS 0, 1, ..", "at first", x -> {
            for (int van = 0; van < 4; van++) {
                due(x.stops(van), 0);
                due(x.stop(van, 0), NONE);
            }
            due(x.told(2), 0);
        });
        edge(1, "THE TAPE holds 0 .. 160 bytes", "empty at first", x -> {
            due(x.told(4), 0);
            due(x.clear(), 0);
        });
        edge(1, "THE PAPER holds the latest text (nothing at first)", "at first", x -> {
            due(x.told(5), 0);
            due(x.paper(0), NONE);
        });
        edge(1, "ROWS 0 .. 3 hold nothing (at first) or a row of 0 .. 40 ints", "at first", x -> {
            for (int row = 0; row < 4; row++) {
                due(x.set(row, 0, 1), NOTHING);
                due(x.get(row, 0), NO);
            }
        });
        edge(40, "STATE: none can", "no steps at first", x -> dueNoSteps(x));
        edge(48, "STATE: there is none", "no image at first", x -> due(x.undo(), STATE));
        edge(1, "The constants: `NO = Long.MIN_VALUE`: No such number", "as told", x ->
                due(RoundSlack.NO, -9223372036854775808L));
        edge(1, "NONE = -1, BAD = -2, STATE = -3, FULL = -4, NOT = -7", "as told", x -> {
            due(RoundSlack.NONE, -1);
            due(RoundSlack.BAD, -2);
            due(RoundSlack.STATE, -3);
            due(RoundSlack.FULL, -4);
            due(RoundSlack.NOT, -7);
        });
        edge(1, "Answers: NONE (-1) no such number; BAD (-2) a number is not as told; STATE (-3) as told; FULL (-4);"
                + " NOT (-7) a ROUND would not be GOOD", "each", x -> {
            due(x.take(0), -1);
            due(x.order(0, 0, 0, -1, 0), -2);
            due(x.order(1, 0, 0, 0, 0), 0);
            due(x.take(0), -3);
            due(x.put(0, 0, 0), -7);
            for (int i = 1; i < 12; i++) due(x.order(0, 0, 0, 0, 0), i);
            due(x.order(0, 0, 0, 0, 0), -4);
        });
        edge(1, "An object is used for at most 512 calls after it has been made", "512 are answered", x -> {
            due(x.order(1, 0, 0, 600, 0), 0);
            for (int i = 0; i < 255; i++) {
                due(x.put(0, i % 4, 0), 1);
                due(x.take(0), i % 4);
            }
            due(x.told(3), 16);
        });
    }

    private static void p2Depot() {
        edge(2, "THE DEPOT is at x, y: 1", "the least place", x -> {
            due(x.depot(7, 8), 1);
            due(x.depot(0, 0), 1);
            due(x.told(9), 0);
            due(x.told(10), 0);
        });
        edge(2, "THE DEPOT is at x, y: 1", "the greatest place", x -> {
            due(x.depot(40, 40), 1);
            due(x.told(9), 40);
            due(x.told(10), 40);
        });
        edge(2, "THE DEPOT is at x, y: 1", "x and y are not one another", x -> {
            due(x.depot(40, 0), 1);
            due(x.told(9), 40);
            due(x.told(10), 0);
        });
        edge(2, "THE DEPOT is at x, y: 1", "the ways to it are others then", x -> {
            line(x, 2);
            due(x.depot(5, 5), 1);
            due(x.way(-1, 0), 9);
            due(x.way(1, -1), 8);
            due(x.way(0, 1), 1);
        });
        for (int wrong : new int[] {-1, 41, LEAST, MOST}) {
            edge(2, "BAD", "x is " + wrong, x -> still(x, () -> x.depot(wrong, 0), BAD));
            edge(2, "BAD", "y is " + wrong, x -> still(x, () -> x.depot(0, wrong), BAD));
        }
        for (int van = 0; van < 4; van++) {
            int one = van;
            edge(2, "STATE: a VAN has a STOP", "van " + van + " has one", x -> {
                line(x, 1);
                due(x.put(0, one, 0), 1);
                still(x, () -> x.depot(1, 1), STATE);
            });
        }
        edge(2, "STATE: a VAN has a STOP", "none has one any more", x -> {
            line(x, 1);
            due(x.put(0, 2, 0), 1);
            due(x.take(0), 2);
            due(x.depot(1, 1), 1);
        });
        edge(2, FIRST_WORD, "BAD ahead of STATE", x -> {
            line(x, 1);
            due(x.put(0, 0, 0), 1);
            still(x, () -> x.depot(0, 41), BAD);
        });
        edge(2, FORGOTTEN, "by depot", x -> {
            line(x, 1);
            twoSteps(x);
            due(x.depot(0, 1), 1);
            dueNoSteps(x);
        });
        edge(2, FORGOTTEN, "not by a depot that is refused", x -> {
            line(x, 1);
            twoSteps(x);
            due(x.depot(41, 1), BAD);
            due(x.back(), 1);
            due(x.depot(1, 1), STATE);
            due(x.back(), 0);
        });
    }

    private static final int[] LEAST_ORDER = {0, 0, 0, 0, 0}, MOST_ORDER = {40, 40, 600, 600, 60};
    private static final String[] OF_AN_ORDER = {"x", "y", "OPEN", "CLOSE", "SERVICE"};

    private static int order(RoundSlack x, int[] with) {
        return x.order(with[0], with[1], with[2], with[3], with[4]);
    }

    private static void dueOrder(RoundSlack x, int order, int... with) {
        for (int what = 0; what < with.length; what++) due(x.of(order, what), with[what]);
    }

    private static void p3Order() {
        edge(3, "An ORDER comes (no DOWN, no UP): its number", "the least numbers", x -> {
            due(order(x, LEAST_ORDER), 0);
            dueOrder(x, 0, 0, 0, 0, 0, 0, 0, 0, 500, LACK, LACK);
        });
        edge(3, "An ORDER comes (no DOWN, no UP): its number", "the greatest numbers", x -> {
            due(order(x, MOST_ORDER), 0);
            dueOrder(x, 0, 40, 40, 600, 600, 60, 0, 0, 500, LACK, LACK);
        });
        edge(3, "ORDERS 0 .. 11, as they come", "the first and the last one", x -> {
            for (int i = 0; i < 12; i++) due(x.order(i, 2 * i, i, 20 + i, 3 * i), i);
            dueOrder(x, 0, 0, 0, 0, 20, 0);
            dueOrder(x, 11, 11, 22, 11, 31, 33);
        });
        edge(3, "a place, OPEN and CLOSE (0 .. 600 each, CLOSE not below OPEN)", "CLOSE is OPEN", x ->
                due(x.order(1, 1, 50, 50, 1), 0));
        edge(3, "a place, OPEN and CLOSE (0 .. 600 each, CLOSE not below OPEN)", "CLOSE is one below OPEN", x ->
                still(x, () -> x.order(1, 1, 50, 49, 1), BAD));
        edge(3, "a place, OPEN and CLOSE (0 .. 600 each, CLOSE not below OPEN)", "OPEN 600, CLOSE 0", x ->
                still(x, () -> x.order(1, 1, 600, 0, 1), BAD));
        for (int i = 0; i < 5; i++) {
            int which = i;
            for (int wrong : new int[] {-1, MOST_ORDER[i] + 1, LEAST, MOST}) {
                edge(3, "BAD: a number of these", OF_AN_ORDER[i] + " is " + wrong, x -> {
                    int[] with = wrong < 0 ? LEAST_ORDER.clone() : MOST_ORDER.clone();
                    with[which] = wrong;
                    still(x, () -> order(x, with), BAD);
                    due(order(x, MOST_ORDER), 0);
                });
            }
        }
        edge(3, "BAD: a number of these", "OPEN and CLOSE are 601", x -> still(x, () -> x.order(0, 0, 601, 601, 0), BAD));
        edge(3, "SERVICE (0 .. 60)", "one too many", x -> still(x, () -> x.order(0, 0, 0, 0, 61), BAD));
        edge(3, "FULL: 12", "the twelfth comes, a thirteenth doesn't", x -> {
            line(x, 12);
            still(x, () -> x.order(1, 1, 1, 1, 1), FULL);
        });
        edge(3, FIRST_WORD, "BAD ahead of FULL", x -> {
            line(x, 12);
            still(x, () -> x.order(1, 1, 1, 0, 1), BAD);
        });
        edge(3, "or it is LEFT (at first)", "an order that has come", x -> {
            line(x, 2);
            due(x.left(), 3);
            due(x.told(1), 2);
        });
        edge(3, FORGOTTEN, "by order", x -> {
            line(x, 1);
            due(x.put(0, 0, 0), 1);
            due(x.order(1, 1, 1, 1, 1), 1);
            dueNoSteps(x);
            dueRounds(x, "0:0");
        });
        edge(3, FORGOTTEN, "not by an order that is refused", x -> {
            line(x, 1);
            twoSteps(x);
            due(x.order(1, 1, 2, 1, 1), BAD);
            due(x.back(), 1);
            dueRounds(x, "0:0");
        });
        edge(3, FORGOTTEN, "not by an order beyond twelve", x -> {
            line(x, 12);
            twoSteps(x);
            due(x.order(1, 1, 1, 1, 1), FULL);
            due(x.told(3), 2);
        });
    }

    private static void p4Load() {
        String[] names = {"DOWN", "UP", "PENALTY"};
        int[] most = {50, 50, 9999};
        for (int i = 0; i < 3; i++) {
            int what = i;
            int greatest = most[i];
            int atFirst = i == 2 ? 500 : 0;
            edge(4, "Of an ORDER that is LEFT what 0 DOWN, 1 UP, 2 PENALTY becomes v: what it was", names[i], x -> {
                line(x, 2);
                due(x.load(1, what, greatest), atFirst);
                due(x.of(1, 5 + what), greatest);
                due(x.load(1, what, 0), greatest);
                due(x.load(1, what, 7), 0);
                due(x.of(1, 5 + what), 7);
                dueOrder(x, 0, 1, 0, 0, 600, 0, 0, 0, 500);
                due(x.of(1, 5), what == 0 ? 7 : 0);
                due(x.of(1, 6), what == 1 ? 7 : 0);
                due(x.of(1, 7), what == 2 ? 7 : 500);
            });
            for (int wrong : new int[] {-1, greatest + 1, LEAST, MOST}) {
                edge(4, "BAD", names[i] + " of " + wrong, x -> {
                    line(x, 1);
                    still(x, () -> x.load(0, what, wrong), BAD);
                });
            }
            edge(4, "STATE: it isn't LEFT (also of PENALTY)", names[i], x -> {
                line(x, 2);
                due(x.put(1, 3, 0), 1);
                still(x, () -> x.load(1, what, 1), STATE);
            });
            edge(4, "STATE: it isn't LEFT (also of PENALTY)", names[i] + " of another, which is", x -> {
                line(x, 2);
                due(x.put(1, 3, 0), 1);
                due(x.load(0, what, 1), atFirst);
            });
        }
        edge(4, "DOWN (0 .. 50: what is brought there), UP (0 .. 50: what is fetched there)", "each by itself", x -> {
            line(x, 1);
            due(x.load(0, 0, 50), 0);
            due(x.load(0, 1, 49), 0);
            due(x.put(0, 0, 0), 1);
            due(x.driven(0, 0, 4), 49);
            due(x.whole(0, 4), 50);
            due(x.whole(0, 5), 49);
        });
        for (int order : new int[] {-1, 2, 12, LEAST, MOST}) {
            edge(4, "NONE: order, what", "order " + order + " of two", x -> {
                line(x, 2);
                still(x, () -> x.load(order, 0, 1), NONE);
            });
        }
        for (int what : new int[] {-1, 3, LEAST, MOST}) {
            edge(4, "NONE: order, what", "what " + what, x -> {
                line(x, 1);
                still(x, () -> x.load(0, what, 1), NONE);
            });
        }
        edge(4, FIRST_WORD, "NONE ahead of BAD", x -> {
            line(x, 1);
            due(x.load(1, 0, 51), NONE);
            due(x.load(0, 3, -1), NONE);
        });
        edge(4, FIRST_WORD, "NONE ahead of STATE", x -> {
            line(x, 1);
            due(x.put(0, 0, 0), 1);
            due(x.load(0, 3, 1), NONE);
        });
        edge(4, FIRST_WORD, "BAD ahead of STATE", x -> {
            line(x, 1);
            due(x.put(0, 0, 0), 1);
            due(x.load(0, 0, 51), BAD);
        });
        edge(4, FORGOTTEN, "by load", x -> {
            line(x, 1);
            twoSteps(x);
            due(x.load(0, 2, 1), 500);
            dueNoSteps(x);
        });
        edge(4, FORGOTTEN, "not by a load that is refused", x -> {
            line(x, 1);
            twoSteps(x);
            due(x.load(0, 0, 51), BAD);
            due(x.load(1, 0, 1), NONE);
            due(x.back(), 1);
            due(x.load(0, 0, 1), STATE);
            due(x.back(), 0);
        });
    }

    private static void p5Van() {
        edge(5, "A VAN has a CAPACITY, START and END: 1", "the least numbers", x -> {
            due(x.van(0, 0, 0, 0), 1);
            due(x.told(20), 0);
            due(x.told(24), 0);
            due(x.told(28), 0);
            due(x.told(21), 100);
            due(x.told(29), 600);
        });
        edge(5, "A VAN has a CAPACITY, START and END: 1", "the greatest numbers", x -> {
            due(x.van(3, 200, 999, 999), 1);
            due(x.told(23), 200);
            due(x.told(27), 999);
            due(x.told(31), 999);
            due(x.told(22), 100);
            due(x.told(26), 0);
        });
        for (int van : new int[] {-1, 4, LEAST, MOST}) {
            edge(5, "NONE", "van " + van, x -> still(x, () -> x.van(van, 1, 1, 1), NONE));
        }
        for (int wrong : new int[] {-1, 201, LEAST, MOST}) {
            edge(5, "BAD", "CAPACITY " + wrong, x -> still(x, () -> x.van(0, wrong, 0, 600), BAD));
        }
        for (int wrong : new int[] {-1, LEAST}) {
            edge(5, "BAD", "START " + wrong, x -> still(x, () -> x.van(0, 100, wrong, 600), BAD));
            edge(5, "BAD", "END " + wrong, x -> still(x, () -> x.van(0, 100, wrong, wrong), BAD));
        }
        for (int wrong : new int[] {1000, MOST}) {
            edge(5, "BAD", "END " + wrong, x -> still(x, () -> x.van(0, 100, 0, wrong), BAD));
            edge(5, "BAD", "START and END " + wrong, x -> still(x, () -> x.van(0, 100, wrong, wrong), BAD));
        }
        edge(5, "START and END of the DAY (0 .. 999, END not below START; 0 and 600 at first)", "END is START", x ->
                due(x.van(1, 100, 500, 500), 1));
        edge(5, "START and END of the DAY (0 .. 999, END not below START; 0 and 600 at first)", "END one below START",
                x -> still(x, () -> x.van(1, 100, 500, 499), BAD));
        edge(5, "STATE: it has a STOP", "it has", x -> {
            line(x, 1);
            due(x.put(0, 1, 0), 1);
            still(x, () -> x.van(1, 100, 0, 600), STATE);
        });
        edge(5, "STATE: it has a STOP", "another has", x -> {
            line(x, 1);
            due(x.put(0, 1, 0), 1);
            due(x.van(0, 1, 2, 3), 1);
            due(x.van(2, 1, 2, 3), 1);
        });
        edge(5, "STATE: it has a STOP", "it has none any more", x -> {
            line(x, 1);
            due(x.put(0, 1, 0), 1);
            due(x.take(0), 1);
            due(x.van(1, 1, 2, 3), 1);
        });
        edge(5, FIRST_WORD, "NONE ahead of BAD", x -> due(x.van(4, 201, 0, 0), NONE));
        edge(5, FIRST_WORD, "BAD ahead of STATE", x -> {
            line(x, 1);
            due(x.put(0, 1, 0), 1);
            due(x.van(1, 201, 0, 0), BAD);
        });
        edge(5, FORGOTTEN, "by van", x -> {
            line(x, 1);
            twoSteps(x);
            due(x.van(3, 1, 2, 3), 1);
            dueNoSteps(x);
        });
        edge(5, FORGOTTEN, "not by a van that is refused", x -> {
            line(x, 1);
            twoSteps(x);
            due(x.van(3, 1, 3, 2), BAD);
            due(x.van(4, 1, 2, 3), NONE);
            due(x.back(), 1);
            due(x.van(0, 1, 2, 3), STATE);
            due(x.back(), 0);
        });
    }

    private static void p6Price() {
        String[] names = {"DRIVE", "DURATION", "FIXED"};
        int[] atFirst = {1, 0, 0};
        int[] most = {9, 9, 999};
        for (int i = 0; i < 3; i++) {
            int what = i;
            int greatest = most[i];
            int first = atFirst[i];
            edge(6, "PRICE of DRIVE (what 0), of DURATION (1), FIXED (2) becomes v: what it was", names[i], x -> {
                due(x.price(what, greatest), first);
                due(x.told(6 + what), greatest);
                due(x.price(what, 0), greatest);
                due(x.told(6 + what), 0);
                due(x.price(what, 5), 0);
                for (int other = 0; other < 3; other++) due(x.told(6 + other), other == what ? 5 : atFirst[other]);
            });
            for (int wrong : new int[] {-1, greatest + 1, LEAST, MOST}) {
                edge(6, "BAD", names[i] + " of " + wrong, x -> still(x, () -> x.price(what, wrong), BAD));
            }
        }
        for (int what : new int[] {-1, 3, LEAST, MOST}) {
            edge(6, "NONE", "what " + what, x -> still(x, () -> x.price(what, 1), NONE));
        }
        edge(6, FIRST_WORD, "NONE ahead of BAD", x -> due(x.price(3, 1000), NONE));
        edge(6, FORGOTTEN, "not by price", x -> {
            line(x, 1);
            twoSteps(x);
            due(x.price(0, 5), 1);
            due(x.back(), 1);
            dueRounds(x, "0:0");
            due(x.cost(0), 10);
        });
        edge(6, "COST of a VAN: 0 with no STOPS; else FIXED, and DRIVE and DURATION of the whole ROUND times their PRICES",
                "new prices hold for rounds that are there", x -> {
            line(x, 1);
            due(x.put(0, 0, 0), 1);
            due(x.price(0, 3), 1);
            due(x.cost(0), 6);
            due(x.price(1, 4), 0);
            due(x.cost(0), 14);
            due(x.price(2, 999), 0);
            due(x.cost(0), 1013);
        });
    }

    /** No call but those that are told forgets steps. */
    private static void noOtherForgets(RoundSlack x) {
        line(x, 1);
        twoSteps(x);
        due(x.price(2, 9), 0);
        feed(x, "0:0");
        due(x.clear(), 3);
        due(x.spell(), 0);
        due(x.row(0, 5), 1);
        due(x.set(0, 0, 7), 1);
        due(x.lay(0, 1), 4);
        due(x.judge(0, 1), 500);
        due(x.image(), 1);
        due(x.best(0, 0), LACK);
        due(x.first(1), 0);
        due(x.told(3), 2);
        due(x.back(), 1);
        dueRounds(x, "0:0");
    }

    private static void p7Feed() {
        edge(7, FORGOTTEN, "not by feed, nor by any call that isn't told", x -> noOtherForgets(x));
        edge(7, "A byte (1 .. 127) comes behind THE TAPE's: how many it has", "the least and the greatest", x -> {
            due(x.feed(1), 1);
            due(x.feed(127), 2);
            due(x.told(4), 2);
        });
        edge(7, "A byte (1 .. 127) comes behind THE TAPE's: how many it has", "behind, not ahead", x -> {
            due(orders(x, "1,2@3-4/5"), 1);
            dueOrder(x, 0, 1, 2, 3, 4, 5);
        });
        for (int wrong : new int[] {0, -1, 128, 256 + '1', LEAST, MOST}) {
            edge(7, "BAD", "byte " + wrong, x -> still(x, () -> x.feed(wrong), BAD));
        }
        edge(7, "THE TAPE holds 0 .. 160 bytes", "160 do", x -> {
            for (int i = 1; i <= 160; i++) due(x.feed('1'), i);
            due(x.told(4), 160);
        });
        edge(7, "FULL", "one more than 160", x -> {
            for (int i = 1; i <= 160; i++) due(x.feed('1'), i);
            still(x, () -> x.feed('1'), FULL);
        });
        edge(7, FIRST_WORD, "BAD ahead of FULL", x -> {
            for (int i = 1; i <= 160; i++) due(x.feed('1'), i);
            due(x.feed(0), BAD);
            due(x.feed(128), BAD);
        });
        edge(7, "FULL", "after clear() there is room", x -> {
            for (int i = 1; i <= 160; i++) due(x.feed('1'), i);
            due(x.clear(), 160);
            due(x.feed('1'), 1);
        });
    }

    private static void p8Clear() {
        edge(8, "THE TAPE is empty then: how many bytes it had", "none", x -> due(x.clear(), 0));
        edge(8, "THE TAPE is empty then: how many bytes it had", "some, then none", x -> {
            feed(x, "12,");
            due(x.clear(), 3);
            due(x.told(4), 0);
            due(x.clear(), 0);
        });
        edge(8, "THE TAPE is empty then: how many bytes it had", "160", x -> {
            for (int i = 1; i <= 160; i++) due(x.feed('1'), i);
            due(x.clear(), 160);
            due(x.told(4), 0);
        });
        edge(8, "THE TAPE is empty then: how many bytes it had", "what is fed behind it stands alone", x -> {
            feed(x, "9,9@9-9/9;");
            due(x.clear(), 10);
            due(orders(x, "1,2@3-4/5"), 1);
            dueOrder(x, 0, 1, 2, 3, 4, 5);
        });
    }

    private static void p9Orders() {
        edge(9, "THE TAPE is ORDERS: how many came", "one, the least numbers", x -> {
            due(orders(x, "0,0@0-0/0"), 1);
            dueOrder(x, 0, 0, 0, 0, 0, 0, 0, 0, 500, LACK, LACK);
        });
        edge(9, "THE TAPE is ORDERS: how many came", "the greatest numbers", x -> {
            due(orders(x, "40,40@600-600/60d50u50"), 1);
            dueOrder(x, 0, 40, 40, 600, 600, 60, 50, 50, 500, LACK, LACK);
        });
        edge(9, "ORDERS as a text (in both texts no blanks stand anywhere): parts, one or more, parted by ; : " + PART,
                "three parts", x -> {
            due(orders(x, "1,2@3-4/5;6,7@8-9/10;11,12@13-14/15"), 3);
            dueOrder(x, 0, 1, 2, 3, 4, 5);
            dueOrder(x, 1, 6, 7, 8, 9, 10);
            dueOrder(x, 2, 11, 12, 13, 14, 15);
        });
        edge(9, PART, "neither", x -> {
            due(orders(x, "1,2@3-4/5"), 1);
            dueOrder(x, 0, 1, 2, 3, 4, 5, 0, 0);
        });
        edge(9, PART, "DOWN alone", x -> {
            due(orders(x, "1,2@3-4/5d6"), 1);
            dueOrder(x, 0, 1, 2, 3, 4, 5, 6, 0);
        });
        edge(9, PART, "UP alone", x -> {
            due(orders(x, "1,2@3-4/5u7"), 1);
            dueOrder(x, 0, 1, 2, 3, 4, 5, 0, 7);
        });
        edge(9, PART, "both, and none behind it", x -> {
            due(orders(x, "1,2@3-4/5d6u7;1,2@3-4/5"), 2);
            dueOrder(x, 0, 1, 2, 3, 4, 5, 6, 7);
            dueOrder(x, 1, 1, 2, 3, 4, 5, 0, 0);
        });
        edge(9, "They come behind those there are", "two are there", x -> {
            line(x, 2);
            due(x.put(1, 0, 0), 1);
            due(orders(x, "9,8@7-8/6"), 1);
            due(x.told(0), 3);
            dueOrder(x, 2, 9, 8, 7, 8, 6, 0, 0, 500, LACK, LACK);
            dueRounds(x, "0:1");
            due(x.way(1, 2), 15);
        });
        edge(9, "THE TAPE is ORDERS: how many came", "twelve in two texts, of 160 bytes at most", x -> {
            String six = "1,1@1-1/1;1,1@1-1/1;1,1@1-1/1;1,1@1-1/1;1,1@1-1/1;1,1@1-1/1";
            due(orders(x, six), 6);
            due(orders(x, six), 6);
            due(x.told(0), 12);
        });
        edge(9, "THE TAPE is ORDERS: how many came", "twelve in one text", x -> {
            due(orders(x, "1,1@1-1/1" + ";1,1@1-1/1".repeat(11)), 12);
            due(x.told(0), 12);
        });
        edge(9, "behind that FULL: there would be more than 12 (none comes then; THE TAPE is empty)", "13 in one text", x -> {
            feed(x, "1,1@1-1/1" + ";1,1@1-1/1".repeat(12));
            stillButTape(x, () -> x.orders(), FULL);
            due(x.told(0), 0);
        });
        edge(9, "behind that FULL: there would be more than 12 (none comes then; THE TAPE is empty)", "16 in 159 bytes", x -> {
            feed(x, "1,1@1-1/1" + ";1,1@1-1/1".repeat(15));
            stillButTape(x, () -> x.orders(), FULL);
        });
        edge(9, "behind that FULL: there would be more than 12 (none comes then; THE TAPE is empty)", "11 and 2", x -> {
            line(x, 11);
            feed(x, "1,1@1-1/1;1,1@1-1/1");
            stillButTape(x, () -> x.orders(), FULL);
            due(orders(x, "1,1@1-1/1"), 1);
        });
        edge(9, "behind that FULL: there would be more than 12 (none comes then; THE TAPE is empty)", "12 and 1", x -> {
            line(x, 12);
            feed(x, "1,1@1-1/1");
            due(x.orders(), FULL);
            due(x.told(4), 0);
            due(x.told(0), 12);
        });
        edge(9, "behind that FULL: there would be more than 12 (none comes then; THE TAPE is empty)",
                "a FAULT goes ahead of it", x -> {
            line(x, 12);
            due(orders(x, "1,1@1-1/1;"), -110);
            due(orders(x, "41"), -100);
        });
        edge(9, FORGOTTEN, "by orders", x -> {
            line(x, 1);
            twoSteps(x);
            due(orders(x, "1,1@1-1/1"), 1);
            dueNoSteps(x);
        });
        edge(9, FORGOTTEN, "not by orders with a FAULT", x -> {
            line(x, 1);
            twoSteps(x);
            due(orders(x, "1,1@1-1/"), -108);
            due(x.back(), 1);
            dueRounds(x, "0:0");
        });
        edge(9, FORGOTTEN, "not by orders that are too many", x -> {
            line(x, 12);
            twoSteps(x);
            due(orders(x, "1,1@1-1/1"), FULL);
            due(x.back(), 1);
        });
        edge(9, EMPTY_BEHIND, "what is fed behind it stands alone", x -> {
            due(orders(x, "1,2@3-4/5"), 1);
            due(x.told(4), 0);
            due(orders(x, "6,7@8-9/10"), 1);
            dueOrder(x, 1, 6, 7, 8, 9, 10);
        });
    }

    private static void ordersFault(String sentence, String text, int fault) {
        edge(9, sentence, text, x -> {
            feed(x, text);
            stillButTape(x, () -> x.orders(), -100 - fault);
        });
    }

    private static void p9Faults() {
        String whole = "1,2@3-4/5d6u7";
        for (int length : new int[] {0, 1, 2, 3, 4, 5, 6, 7, 8, 10, 12}) {
            ordersFault(TOO_EARLY, whole.substring(0, length), length);
        }
        ordersFault(TOO_EARLY, "1,2@3-4/5u", 10);
        ordersFault(TOO_EARLY, whole + ";", 14);
        ordersFault(TOO_EARLY, whole + ";1,2@3-4/", 22);
        ordersFault(TOO_EARLY, "0,0@0-0/0" + ";0,0@0-0/0".repeat(15) + ";", 160);
        edge(9, EMPTY_BEHIND, "an empty one", x -> {
            stillButTape(x, () -> x.orders(), -100);
        });
        for (int i = 0; i <= whole.length(); i++) {
            ordersFault(NO_BLANKS, whole.substring(0, i) + " " + whole.substring(i), i);
        }
        String[][] off = {{"x", "0"}, {",", "0"}, {"-1,2@3-4/5", "0"}, {"+1,2@3-4/5", "0"}, {";", "0"}, {"1;", "1"}, {"1,,", "2"},
            {"1,2,", "3"}, {"1,2@@", "4"}, {"1,2@3,4", "5"}, {"1,2@3--4", "6"}, {"1,2@3-4-5", "7"}, {"1,2@3-4//", "8"},
            {"1,2@3-4;", "7"}, {"1,2@3-4/5,", "9"}, {"1,2@3-4/5D6", "9"}, {"1,2@3-4/5U6", "9"}, {"1,2@3-4/5dd6", "10"},
            {"1,2@3-4/5d;", "10"}, {"1,2@3-4/5uu6", "10"}, {"1,2@3-4/5d6d7", "11"}, {"1,2@3-4/5u6u7", "11"},
            {"1,2@3-4/5u6d7", "11"}, {"1,2@3-4/5d6,", "11"}, {"1,2@3-4/5d6u7d8", "13"}, {whole + ";;", "14"},
            {whole + "," + whole, "13"}, {"1.2@3-4/5", "1"}, {"1,2@3-4/5" + (char) 127, "9"}, {"" + (char) 1, "0"}};
        for (String[] one : off) ordersFault(GOES_ON, one[0], Integer.parseInt(one[1]));
        for (String name : new String[] {"x", "y"}) {
            String from = name.equals("x") ? "" : "1,";
            int at = from.length();
            for (String number : new String[] {"41", "41,", "041", "99x", "100", "400", "4000", "999"}) {
                ordersFault(NOT_ALLOWED, from + number, at);
            }
        }
        String[][] numbers = {{"1,2@601-4/5", "4"}, {"1,2@601", "4"}, {"1,2@999x", "4"}, {"1,2@3-2/5", "6"}, {"1,2@3-2", "6"},
            {"1,2@3-002", "6"}, {"1,2@3-601", "6"}, {"1,2@600-599", "8"}, {"1,2@601-600", "4"}, {"1,2@3-4/61", "8"},
            {"1,2@3-4/061x", "8"}, {"1,2@3-4/5d51", "10"}, {"1,2@3-4/5u51", "10"}, {"1,2@3-4/5d50u51", "13"},
            {whole + ";41,2@3-4/5", "14"}, {whole + ";1,2@3-2/5", "20"}, {whole + ";1,2@2-2/5d51", "24"}};
        for (String[] one : numbers) ordersFault(NOT_ALLOWED, one[0], Integer.parseInt(one[1]));
        ordersFault("FAULT of a text (the first that is met from the left)", "41,x", 0);
        ordersFault("FAULT of a text (the first that is met from the left)", "1,2@3-4/5;1x;41", 11);
        ordersFault("FAULT of a text (the first that is met from the left)", "1,2@9-8/61", 6);
        p9Figures();
        edge(9, DOES_NOTHING, "the parts ahead of the FAULT don't come", x -> {
            due(orders(x, "1,2@3-4/5;1,2@3-4/5;1,2@3-4/61"), -128);
            due(x.told(0), 0);
            due(x.order(6, 6, 6, 6, 6), 0);
        });
        edge(9, "-100 less the FAULT of a text", "FAULT 0 and FAULT 160", x -> {
            due(orders(x, "x"), -100);
            due(orders(x, "0,0@0-0/0" + ";0,0@0-0/0".repeat(15) + ";"), -260);
        });
        edge(9, "-100 less the FAULT", "FAULT 2", x -> due(orders(x, "1,"), -102));
    }

    private static void p9Figures() {
        edge(9, FIGURES, "three figures each", x -> {
            due(orders(x, "001,002@003-004/005d006u007"), 1);
            dueOrder(x, 0, 1, 2, 3, 4, 5, 6, 7);
        });
        edge(9, FIGURES, "000", x -> {
            due(orders(x, "000,000@000-000/000d000u000"), 1);
            dueOrder(x, 0, 0, 0, 0, 0, 0, 0, 0);
        });
        String[][] four = {{"0001,2@3-4/5", "3"}, {"1,0002@3-4/5", "5"}, {"1,2@0003-4/5", "7"}, {"1,2@0-0004/5", "9"},
            {"1,2@3-4/0005", "11"}, {"1,2@3-4/5d0006", "13"}, {"1,2@3-4/5u0006", "13"}, {"1,2@3-4/5d6u0007", "15"}};
        for (String[] one : four) ordersFault(FIGURES, one[0], Integer.parseInt(one[1]));
        ordersFault(FIGURES, "4001,2@3-4/5", 0);
        ordersFault(FIGURES, "1,2@6000", 7);
        ordersFault(FIGURES, "1,2@7000", 4);
        ordersFault(FIGURES, "1,2@300-2999", 8);
        ordersFault(FIGURES, "1,2@3-4/61x", 8);
        ordersFault(FIGURES, "99999999999999999999", 0);
    }

    private static void p10Plan() {
        edge(10, "THE TAPE is a PLAN: how many STOPS", "one stop", x -> {
            line(x, 1);
            due(plan(x, "3:0"), 1);
            dueRounds(x, "3:0");
        });
        edge(10, "THE TAPE is a PLAN: how many STOPS", "twelve stops of one van", x -> {
            line(x, 12);
            due(plan(x, "1:0,1,2,3,4,5,6,7,8,9,10,11"), 12);
            due(x.stops(1), 12);
            due(x.left(), 0);
        });
        edge(10, "for one or more VANS (an empty TAPE: FAULT 0), each higher than the one ahead, parted by ;", "all four", x -> {
            line(x, 12);
            due(plan(x, "0:11,0;1:10;2:9,1,2;3:8"), 7);
            dueRounds(x, "0:11,0;1:10;2:9,1,2;3:8");
        });
        edge(10, "for one or more VANS (an empty TAPE: FAULT 0), each higher than the one ahead, parted by ;", "empty", x -> {
            line(x, 1);
            due(x.put(0, 0, 0), 1);
            stillButTape(x, () -> x.plan(), -100);
        });
        edge(10, "VAN (1 figure), : , and ORDERS (1 or 2 figures) with , between, one or more, none told twice", "two figures", x -> {
            line(x, 11);
            due(plan(x, "2:00,10,09"), 3);
            dueRounds(x, "2:0,10,9");
        });
        edge(10, "ROUNDS become these (others none); all must be GOOD", "those told ahead are gone", x -> {
            line(x, 4);
            due(plan(x, "0:0,1;3:2"), 3);
            due(plan(x, "1:3"), 1);
            dueRounds(x, "1:3");
            due(x.left(), 7);
        });
        edge(10, "ROUNDS become these (others none); all must be GOOD", "just in time, just room", x -> {
            line(x, 2);
            due(x.load(0, 0, 50), 0);
            due(x.load(1, 0, 50), 0);
            due(x.van(2, 100, 0, 4), 1);
            due(plan(x, "2:0,1"), 2);
        });
        edge(10, "behind that NOT (nothing is otherwise then; THE TAPE is empty)", "back too late", x -> {
            line(x, 2);
            due(x.put(0, 1, 0), 1);
            due(x.van(2, 100, 0, 3), 1);
            feed(x, "2:0,1");
            stillButTape(x, () -> x.plan(), NOT);
            dueRounds(x, "1:0");
        });
        edge(10, "behind that NOT (nothing is otherwise then; THE TAPE is empty)", "it closes too early", x -> {
            due(x.order(5, 0, 0, 4, 0), 0);
            feed(x, "0:0");
            stillButTape(x, () -> x.plan(), NOT);
        });
        edge(10, "behind that NOT (nothing is otherwise then; THE TAPE is empty)", "too full", x -> {
            line(x, 1);
            due(x.load(0, 1, 11), 0);
            due(x.van(3, 10, 0, 600), 1);
            feed(x, "3:0");
            stillButTape(x, () -> x.plan(), NOT);
        });
        edge(10, "behind that NOT (nothing is otherwise then; THE TAPE is empty)", "one of two vans' rounds isn't", x -> {
            line(x, 2);
            due(x.van(3, 100, 0, 1), 1);
            feed(x, "0:0;3:1");
            stillButTape(x, () -> x.plan(), NOT);
        });
        edge(10, "behind that NOT (nothing is otherwise then; THE TAPE is empty)", "a FAULT goes ahead of it", x -> {
            due(x.order(5, 0, 0, 4, 0), 0);
            due(plan(x, "0:0;"), -104);
            due(plan(x, "0:0,0"), -104);
        });
        edge(10, FORGOTTEN, "by plan", x -> {
            line(x, 1);
            twoSteps(x);
            due(plan(x, "0:0"), 1);
            dueNoSteps(x);
        });
        edge(10, FORGOTTEN, "not by a plan with a FAULT", x -> {
            line(x, 1);
            twoSteps(x);
            due(plan(x, "0:0,"), -104);
            due(x.back(), 1);
            dueRounds(x, "0:0");
        });
        edge(10, FORGOTTEN, "not by a plan that isn't GOOD", x -> {
            line(x, 1);
            due(x.van(1, 100, 0, 0), 1);
            twoSteps(x);
            due(plan(x, "1:0"), NOT);
            due(x.back(), 1);
            dueRounds(x, "0:0");
        });
        edge(10, EMPTY_BEHIND, "what is fed behind it stands alone", x -> {
            line(x, 2);
            due(plan(x, "0:0"), 1);
            due(x.told(4), 0);
            due(plan(x, "0:1"), 1);
            dueRounds(x, "0:1");
        });
    }

    /** Of three orders, 1 of them in a round already. */
    private static void planFault(String sentence, String text, int fault) {
        edge(10, sentence, text, x -> {
            line(x, 3);
            due(x.put(1, 3, 0), 1);
            feed(x, text);
            stillButTape(x, () -> x.plan(), -100 - fault);
            dueRounds(x, "3:1");
        });
    }

    private static void p10Faults() {
        planFault(TOO_EARLY, "", 0);
        planFault(TOO_EARLY, "0", 1);
        planFault(TOO_EARLY, "0:", 2);
        planFault(TOO_EARLY, "0:1,", 4);
        planFault(TOO_EARLY, "0:1;", 4);
        planFault(TOO_EARLY, "0:1;3", 5);
        planFault(TOO_EARLY, "0:1;3:", 6);
        planFault(TOO_EARLY, "0:01,2;3:00,", 12);
        String whole = "0:1;2:0,2";
        for (int i = 0; i <= whole.length(); i++) {
            planFault(NO_BLANKS, whole.substring(0, i) + " " + whole.substring(i), i);
        }
        String[][] off = {{"x", "0"}, {":", "0"}, {";", "0"}, {"-1:0", "0"}, {"0;", "1"}, {"0,1", "1"}, {"0::1", "2"}, {"0:,", "2"},
            {"0:;", "2"}, {"0:x", "2"}, {"0:1x", "3"}, {"0:1:", "3"}, {"0:1,,", "4"}, {"0:1,x", "4"}, {"0:1;;", "4"},
            {"0:1;x", "4"}, {"0:1;1;", "5"}, {"0:1;1:;", "6"}, {"0:-1", "2"}, {"0:1.2", "3"}};
        for (String[] one : off) planFault(GOES_ON, one[0], Integer.parseInt(one[1]));
        for (String van : new String[] {"4", "9", "4:0", "9x", "40:1"}) planFault(NOT_ALLOWED, van, 0);
        planFault(NOT_ALLOWED, "0:1;4:2", 4);
        planFault(NOT_ALLOWED, "3:1;4", 4);
        planFault("each higher than the one ahead", "0:1;0:2", 4);
        planFault("each higher than the one ahead", "1:1;0:2", 4);
        planFault("each higher than the one ahead", "0:1;3:0;2:2", 8);
        planFault("each higher than the one ahead", "3:1;3", 4);
        planFault(NOT_ALLOWED, "0:3", 2);
        planFault(NOT_ALLOWED, "0:12", 2);
        planFault(NOT_ALLOWED, "0:03x", 2);
        planFault(NOT_ALLOWED, "0:99", 2);
        planFault(NOT_ALLOWED, "0:1,2,3", 6);
        planFault("none told twice", "0:1,1", 4);
        planFault("none told twice", "0:1,0,01", 6);
        planFault("none told twice", "0:1;1:2,1", 8);
        planFault("none told twice", "0:00,0x", 5);
        planFault("VAN (1 figure), : , and ORDERS (1 or 2 figures) with , between, one or more", "00:1", 1);
        planFault("VAN (1 figure), : , and ORDERS (1 or 2 figures) with , between, one or more", "10:1", 1);
        planFault("VAN (1 figure), : , and ORDERS (1 or 2 figures) with , between, one or more", "0:001", 4);
        planFault("VAN (1 figure), : , and ORDERS (1 or 2 figures) with , between, one or more", "0:000", 4);
        planFault("VAN (1 figure), : , and ORDERS (1 or 2 figures) with , between, one or more", "0:010", 4);
        fifthVan(TOO_EARLY, ";");
        fifthVan(NOT_ALLOWED, ";4");
        fifthVan(NOT_ALLOWED, ";3:4");
        fifthVan("each higher than the one ahead", ";0:4");
        fifthVan(GOES_ON, ";x");
        fifthVan(NO_BLANKS, "; 4");
        edge(10, FIGURES, "order 10 of two figures, then a third one", x -> {
            line(x, 11);
            due(plan(x, "0:100"), -104);
            due(plan(x, "0:110"), -102);
            due(plan(x, "0:10"), 1);
        });
        planFault(FIGURES, "0:300", 2);
        planFault(FIGURES, "0:120x", 2);
        planFault("FAULT of a text (the first that is met from the left)", "0:1,1;9:x", 4);
        planFault("FAULT of a text (the first that is met from the left)", "4:99", 0);
        planFault(DOES_NOTHING, "0:0,1,2;1:", 10);
        edge(10, "A PLAN as a text", "with no orders at all, the first number is a FAULT", x -> {
            due(plan(x, "0:0"), -102);
            due(plan(x, ""), -100);
        });
        edge(10, "-100 less the FAULT", "of 160 bytes", x -> {
            line(x, 1);
            due(plan(x, "0:0" + "x".repeat(157)), -103);
            due(x.told(4), 0);
        });
    }

    private static void fifthVan(String sentence, String behind) {
        edge(10, sentence, "behind four vans " + behind, x -> {
            line(x, 5);
            due(plan(x, "0:0;1:1;2:2;3:3" + behind), -116);
            dueRounds(x, "");
            due(plan(x, "0:0;1:1;2:2;3:3"), 4);
        });
    }

    private static void p11Spell() {
        edge(11, "THE PAPER becomes the PLAN: how many bytes", "no stops: none", x -> {
            line(x, 1);
            due(x.spell(), 0);
            due(x.told(5), 0);
            due(x.paper(0), NONE);
        });
        edge(11, "THE PAPER becomes the PLAN: how many bytes", "the longest", x -> {
            line(x, 12);
            due(plan(x, "0:11,10,9;1:8,7,6;2:5,4,3;3:2,1,0"), 12);
            due(x.spell(), 33);
            due(x.told(5), 33);
            dueText(paper(x), "0:11,10,9;1:8,7,6;2:5,4,3;3:2,1,0");
        });
        edge(11, "the PLAN, SPELLED as such a text (VANS with STOPS alone)", "not the vans between", x -> {
            line(x, 3);
            due(plan(x, "1:2;3:0,1"), 3);
            due(x.spell(), 9);
            dueText(paper(x), "1:2;3:0,1");
        });
        edge(11, "the PLAN, SPELLED as such a text (VANS with STOPS alone)", "orders of two figures", x -> {
            line(x, 12);
            due(plan(x, "2:9,10,11"), 3);
            due(x.spell(), 9);
            dueText(paper(x), "2:9,10,11");
        });
        edge(11, "the PLAN, SPELLED as such a text (VANS with STOPS alone)", "fed again it is the same", x -> {
            line(x, 12);
            due(plan(x, "0:10,0,1;1:11;2:3,2"), 6);
            due(x.spell(), 19);
            String text = paper(x);
            due(x.ruin(0, 12), 6);
            due(plan(x, text), 6);
            dueRounds(x, "0:10,0,1;1:11;2:3,2");
        });
        edge(11, "THE PAPER holds the latest text (nothing at first)", "a shorter one behind a longer one", x -> {
            line(x, 3);
            due(plan(x, "0:0,1,2"), 3);
            due(x.spell(), 7);
            due(x.take(1), 0);
            dueText(paper(x), "0:0,1,2");
            due(x.spell(), 5);
            dueText(paper(x), "0:0,2");
            due(x.paper(5), NONE);
            due(x.ruin(0, 12), 2);
            due(x.spell(), 0);
            due(x.paper(0), NONE);
        });
        edge(11, "what is asked changes nothing but THE PAPER, ROWS that are told", "rounds, tape and steps stay", x -> {
            line(x, 2);
            due(x.put(0, 0, 0), 1);
            feed(x, "0:1");
            due(x.spell(), 3);
            due(x.told(4), 3);
            due(x.told(3), 1);
            dueRounds(x, "0:0");
        });
    }

    private static void p12Paper() {
        edge(12, "Byte i of THE PAPER", "the first and the last", x -> {
            line(x, 11);
            due(plan(x, "3:7,10"), 2);
            due(x.spell(), 6);
            due(x.paper(0), '3');
            due(x.paper(1), ':');
            due(x.paper(2), '7');
            due(x.paper(3), ',');
            due(x.paper(4), '1');
            due(x.paper(5), '0');
        });
        edge(12, "Byte i of THE PAPER", "; between vans", x -> {
            line(x, 2);
            due(plan(x, "0:1;1:0"), 2);
            due(x.spell(), 7);
            due(x.paper(3), ';');
        });
        for (int i : new int[] {-1, 3, 33, 64, LEAST, MOST}) {
            edge(12, "NONE", "byte " + i + " of three", x -> {
                line(x, 1);
                due(x.put(0, 0, 0), 1);
                due(x.spell(), 3);
                still(x, () -> x.paper(i), NONE);
            });
        }
        edge(12, "NONE", "byte 0 of nothing", x -> due(x.paper(0), NONE));
    }

    private static void p13Way() {
        edge(13, "WAY between two ORDERS (-1: THE DEPOT)", "one and the same", x -> {
            line(x, 2);
            due(x.way(1, 1), 0);
            due(x.way(-1, -1), 0);
        });
        edge(13, "WAY between two places: how far x, and y, are apart, added up", "there and back", x -> {
            due(x.order(3, 20, 0, 0, 0), 0);
            due(x.order(10, 4, 0, 0, 0), 1);
            due(x.way(0, 1), 23);
            due(x.way(1, 0), 23);
        });
        edge(13, "WAY between two places: how far x, and y, are apart, added up", "the longest", x -> {
            due(x.depot(0, 40), 1);
            due(x.order(40, 0, 0, 0, 0), 0);
            due(x.way(-1, 0), 80);
            due(x.way(0, -1), 80);
        });
        edge(13, "WAY between two places: how far x, and y, are apart, added up", "none between places that are the same", x -> {
            due(x.order(7, 7, 0, 0, 0), 0);
            due(x.order(7, 7, 9, 9, 9), 1);
            due(x.depot(7, 7), 1);
            due(x.way(0, 1), 0);
            due(x.way(1, -1), 0);
        });
        for (int order : new int[] {-2, 2, 12, LEAST, MOST}) {
            edge(13, "NONE (-1): either", "the first is " + order, x -> {
                line(x, 2);
                still(x, () -> x.way(order, 0), NONE);
            });
            edge(13, "NONE (-1): either", "the second is " + order, x -> {
                line(x, 2);
                still(x, () -> x.way(-1, order), NONE);
            });
        }
        edge(13, "NONE (-1): either", "no orders at all", x -> due(x.way(-1, 0), NONE));
    }

    private static void p14Of() {
        edge(14, "Of an ORDER what 0 x, 1 y, 2 OPEN, 3 CLOSE, 4 SERVICE, 5 DOWN, 6 UP, 7 PENALTY, 8 its VAN, 9 its STOP"
                + " (-5: it is LEFT)", "each, of a stop", x -> {
            line(x, 1);
            due(x.order(1, 2, 30, 40, 5), 1);
            due(x.load(1, 0, 6), 0);
            due(x.load(1, 1, 7), 0);
            due(x.load(1, 2, 9999), 500);
            due(plan(x, "3:0,1"), 2);
            dueOrder(x, 1, 1, 2, 30, 40, 5, 6, 7, 9999, 3, 1);
            dueOrder(x, 0, 1, 0, 0, 600, 0, 0, 0, 500, 3, 0);
        });
        edge(14, "8 its VAN, 9 its STOP (-5: it is LEFT)", "one that is left", x -> {
            line(x, 1);
            still(x, () -> x.of(0, 8), LACK);
            still(x, () -> x.of(0, 9), LACK);
        });
        edge(14, "8 its VAN, 9 its STOP (-5: it is LEFT)", "van 0, stop 0, and left again", x -> {
            line(x, 1);
            due(x.put(0, 0, 0), 1);
            due(x.of(0, 8), 0);
            due(x.of(0, 9), 0);
            due(x.take(0), 0);
            due(x.of(0, 8), LACK);
            due(x.of(0, 9), LACK);
        });
        for (int order : new int[] {-1, 1, 12, LEAST, MOST}) {
            edge(14, "NONE", "order " + order + " of one", x -> {
                line(x, 1);
                for (int what = 0; what <= 9; what++) due(x.of(order, what), NONE);
            });
        }
        for (int what : new int[] {-1, 10, LEAST, MOST}) {
            edge(14, "NONE", "what " + what, x -> {
                line(x, 1);
                still(x, () -> x.of(0, what), NONE);
            });
        }
        edge(14, FIRST_WORD, "NONE, not -5, of an order that isn't there", x -> {
            due(x.of(0, 8), NONE);
            due(x.of(0, 9), NONE);
        });
        edge(14, REFUSED, "a call that is refused behind many", x -> {
            line(x, 2);
            due(plan(x, "1:1"), 1);
            due(x.take(1), 1);
            still(x, () -> x.of(2, 8), NONE);
            due(x.back(), 0);
            dueRounds(x, "1:1");
        });
    }
}
