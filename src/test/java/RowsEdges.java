/** Promises 42 to 48: rows, the image. */
final class RowsEdges extends Edges {
    private static final String LAID = "LAID into a ROW from a place on: VAN by VAN its ORDERS, STOP by STOP, and -1 behind"
            + " each VAN, until a place isn't there";
    private static final String TOLD_PLAN = "A TOLD PLAN: of a ROW from a place on up to the fourth -1 likewise";
    private static final String IMAGE = "THE IMAGE: ORDERS, VANS, THE DEPOT, PRICES, FIXED, ROUNDS (THE TAPE, THE PAPER, ROWS"
            + " stay by undo())";
    private static final String ASKED = "what is asked changes nothing but THE PAPER, ROWS that are told";
    private static final int[] NO_ROWS = {-1, 4, LEAST, MOST};

    @Override
    void all() {
        p42Row();
        p43Set();
        p44Get();
        p45Lay();
        p46Judge();
        p47Image();
        p48Undo();
    }

    private static void p42Row() {
        String told = "A ROW becomes a row of n ints, all 0: 1";
        edge(42, told, "of none", x -> {
            due(x.row(0, 0), 1);
            due(x.get(0, 0), NO);
            due(x.set(0, 0, 1), BEYOND);
        });
        edge(42, told, "of 40", x -> {
            due(x.row(3, 40), 1);
            due(x.get(3, 0), 0);
            due(x.get(3, 39), 0);
            due(x.get(3, 40), NO);
            due(x.set(3, 39, 7), 1);
        });
        edge(42, told, "all 0 anew", x -> {
            setRow(x, 1, 5, 6, 7);
            due(x.row(1, 3), 1);
            dueText(row(x, 1), "0 0 0");
        });
        edge(42, told, "shorter, then longer again: all 0", x -> {
            setRow(x, 1, 5, 6, 7);
            due(x.row(1, 1), 1);
            dueText(row(x, 1), "0");
            due(x.row(1, 3), 1);
            dueText(row(x, 1), "0 0 0");
        });
        edge(42, told, "each row by itself", x -> {
            for (int row = 0; row < 4; row++) setRow(x, row, row + 1, -row);
            due(x.row(2, 1), 1);
            dueText(row(x, 0), "1 0");
            dueText(row(x, 1), "2 -1");
            dueText(row(x, 2), "0");
            dueText(row(x, 3), "4 -3");
        });
        for (int row : NO_ROWS) edge(42, "NONE: row", "row " + row, x -> still(x, () -> x.row(row, 1), NONE));
        for (int n : new int[] {41, 42, MOST}) {
            edge(42, "BAD: n above 40", "n is " + n, x -> {
                setRow(x, 0, 5, 6);
                still(x, () -> x.row(0, n), BAD);
                due(x.set(1, 0, 1), NOTHING);
                due(x.row(1, n), BAD);
                due(x.set(1, 0, 1), NOTHING);
            });
        }
        for (int n : new int[] {-1, LEAST}) {
            edge(42, "BELOW", "n is " + n, x -> {
                setRow(x, 0, 5, 6);
                still(x, () -> x.row(0, n), BELOW);
                due(x.row(1, n), BELOW);
                due(x.set(1, 0, 1), NOTHING);
            });
        }
        edge(42, "NOTHING (-11): there is none; BEYOND (-13): no such place; BELOW (-14): a size below 0", "each", x -> {
            due(x.set(0, 0, 1), -11);
            due(x.row(0, 1), 1);
            due(x.set(0, 1, 1), -13);
            due(x.row(0, -1), -14);
        });
        edge(42, FIRST_WORD, "NONE ahead of BAD and BELOW", x -> {
            due(x.row(4, 41), NONE);
            due(x.row(-1, -1), NONE);
        });
    }

    private static void p43Set() {
        edge(43, "Place i of a ROW becomes v: 1", "the first and the last, the least and the greatest int", x -> {
            due(x.row(3, 40), 1);
            due(x.set(3, 0, LEAST), 1);
            due(x.set(3, 39, MOST), 1);
            due(x.get(3, 0), -2147483648L);
            due(x.get(3, 39), 2147483647L);
            due(x.get(3, 1), 0);
            due(x.get(3, 38), 0);
        });
        for (int row : NO_ROWS) {
            edge(43, "NONE", "row " + row, x -> {
                setRow(x, 0, 5);
                still(x, () -> x.set(row, 0, 1), NONE);
            });
        }
        edge(43, "NOTHING", "no row was made", x -> {
            setRow(x, 0, 5);
            still(x, () -> x.set(1, 0, 1), NOTHING);
        });
        for (int i : new int[] {-1, 2, 39, 40, LEAST, MOST}) {
            edge(43, "BEYOND", "place " + i + " of two", x -> {
                setRow(x, 0, 5, 6);
                still(x, () -> x.set(0, i, 1), BEYOND);
            });
        }
        edge(43, "BEYOND", "place 0 of none", x -> {
            due(x.row(0, 0), 1);
            still(x, () -> x.set(0, 0, 1), BEYOND);
        });
        edge(43, FIRST_WORD, "NONE, NOTHING, BEYOND", x -> {
            due(x.set(4, -1, 1), NONE);
            due(x.set(0, -1, 1), NOTHING);
            due(x.row(0, 1), 1);
            due(x.set(0, -1, 1), BEYOND);
        });
    }

    private static void p44Get() {
        edge(44, "Place i of a ROW", "the first and the last", x -> {
            setRow(x, 2, -1, 0, 7);
            due(x.get(2, 0), -1);
            due(x.get(2, 1), 0);
            due(x.get(2, 2), 7);
        });
        for (int row : NO_ROWS) {
            edge(44, "NO: no such ROW, nothing there, no such place", "row " + row, x -> {
                setRow(x, 0, 5);
                still(x, () -> x.get(row, 0), NO);
            });
        }
        edge(44, "NO: no such ROW, nothing there, no such place", "nothing there", x -> {
            for (int row = 0; row < 4; row++) {
                due(x.get(row, 0), NO);
                due(x.get(row, -11), NO);
            }
        });
        for (int i : new int[] {-1, 2, 40, LEAST, MOST}) {
            edge(44, "NO: no such ROW, nothing there, no such place", "place " + i + " of two", x -> {
                setRow(x, 0, 5, 6);
                still(x, () -> x.get(0, i), NO);
            });
        }
        edge(44, "NO: no such ROW, nothing there, no such place", "place 0 of none", x -> {
            due(x.row(0, 0), 1);
            due(x.get(0, 0), NO);
        });
    }

    /** 3 and 1 in van 0, 0 in van 2: seven ints. */
    private static void three(RoundSlack x) {
        line(x, 4);
        due(plan(x, "0:3,1;2:0"), 3);
    }

    private static void p45Lay() {
        String told = "ROUNDS are LAID into a ROW from i on: how many ints";
        edge(45, told, "no stops: four", x -> {
            due(x.row(0, 4), 1);
            due(x.lay(0, 0), 4);
            dueText(row(x, 0), "-1 -1 -1 -1");
        });
        edge(45, told, "twelve stops: sixteen, in a row of 40 as far behind as can be", x -> {
            line(x, 12);
            due(plan(x, "1:11,10,9,8,7,6,5,4,3,2,1;3:0"), 12);
            due(x.row(0, 40), 1);
            due(x.lay(0, 24), 16);
            due(x.get(0, 23), 0);
            due(x.get(0, 24), -1);
            due(x.get(0, 25), 11);
            due(x.get(0, 35), 1);
            due(x.get(0, 36), -1);
            due(x.get(0, 37), -1);
            due(x.get(0, 38), 0);
            due(x.get(0, 39), -1);
        });
        edge(45, LAID, "just room", x -> {
            three(x);
            due(x.row(1, 7), 1);
            due(x.lay(1, 0), 7);
            dueText(row(x, 1), "3 1 -1 -1 0 -1 -1");
        });
        edge(45, LAID, "what is ahead and behind stays", x -> {
            three(x);
            setRow(x, 1, 90, 91, 92, 93, 94, 95, 96, 97, 98);
            due(x.lay(1, 1), 7);
            dueText(row(x, 1), "90 3 1 -1 -1 0 -1 -1 98");
        });
        String beyond = "BEYOND: not all were (those that had a place are there all the same; none, if i is below 0)";
        edge(45, beyond, "one place too few: the last -1 has none", x -> {
            three(x);
            setRow(x, 1, 90, 91, 92, 93, 94, 95);
            due(x.lay(1, 0), BEYOND);
            dueText(row(x, 1), "3 1 -1 -1 0 -1");
        });
        edge(45, beyond, "from the last place on: one is there", x -> {
            three(x);
            setRow(x, 1, 90, 91, 92);
            due(x.lay(1, 2), BEYOND);
            dueText(row(x, 1), "90 91 3");
        });
        for (int i : new int[] {-1, -7, LEAST}) {
            edge(45, beyond, "i is " + i + ": none", x -> {
                three(x);
                setRow(x, 1, 90, 91, 92, 93, 94, 95, 96, 97);
                still(x, () -> x.lay(1, i), BEYOND);
            });
        }
        for (int i : new int[] {2, 3, 40, MOST, MOST - 3}) {
            edge(45, beyond, "i is " + i + " of two: none", x -> {
                three(x);
                setRow(x, 1, 90, 91);
                still(x, () -> x.lay(1, i), BEYOND);
            });
        }
        edge(45, beyond, "a row of none", x -> {
            due(x.row(0, 0), 1);
            due(x.lay(0, 0), BEYOND);
        });
        edge(45, "What is answered so changes nothing (but ROWS by BEYOND, as told)", "no other row, no rounds", x -> {
            three(x);
            setRow(x, 0, 80, 81);
            setRow(x, 1, 90, 91);
            due(x.lay(1, 1), BEYOND);
            dueText(row(x, 0), "80 81");
            dueText(row(x, 1), "90 3");
            dueRounds(x, "0:3,1;2:0");
            due(x.told(3), 0);
        });
        for (int row : NO_ROWS) {
            edge(45, "NONE", "row " + row, x -> {
                setRow(x, 0, 5);
                still(x, () -> x.lay(row, 0), NONE);
            });
        }
        edge(45, "NOTHING", "no row was made", x -> {
            three(x);
            still(x, () -> x.lay(1, 0), NOTHING);
            due(x.get(1, 0), NO);
        });
        edge(45, FIRST_WORD, "NONE, NOTHING, BEYOND", x -> {
            due(x.lay(4, -1), NONE);
            due(x.lay(0, -1), NOTHING);
            due(x.row(0, 1), 1);
            due(x.lay(0, -1), BEYOND);
        });
        edge(45, ASKED, "steps and paper stay", x -> {
            line(x, 1);
            due(x.put(0, 0, 0), 1);
            due(x.row(0, 5), 1);
            due(x.lay(0, 0), 5);
            due(x.told(3), 1);
            due(x.told(5), 0);
            dueRounds(x, "0:0");
        });
    }

    private static void p46Judge() {
        String told = "A TOLD PLAN: COST of all, were ROUNDS so";
        String state = "STATE: nothing is in the ROW, it ends ahead of the fourth -1 (or i is below 0)";
        edge(46, told, "no stops: penalties", x -> {
            line(x, 3);
            setRow(x, 0, -1, -1, -1, -1);
            still(x, () -> x.judge(0, 0), 1500);
        });
        edge(46, told, "no orders: 0", x -> {
            setRow(x, 0, -1, -1, -1, -1);
            due(x.judge(0, 0), 0);
        });
        edge(46, told, "some stops; rounds that are there don't count, and stay", x -> {
            three(x);
            due(x.price(2, 100), 0);
            setRow(x, 0, -1, 2, 0, -1, -1, 1, -1);
            still(x, () -> x.judge(0, 0), 100 + 6 + 100 + 4 + 500);
        });
        edge(46, told, "all twelve", x -> {
            line(x, 12);
            setRow(x, 0, -1, -1, -1, 11, 10, 9, 8, 7, 6, 5, 4, 3, 2, 1, 0, -1);
            due(x.judge(0, 0), 24);
        });
        edge(46, told, "what lay() laid costs what is there", x -> {
            three(x);
            due(x.price(1, 3), 0);
            due(x.row(2, 9), 1);
            due(x.lay(2, 2), 7);
            due(x.judge(2, 2), x.cost(-1));
        });
        edge(46, TOLD_PLAN, "behind the fourth -1 there may be anything", x -> {
            line(x, 2);
            setRow(x, 0, 0, -1, -1, -1, -1, 0, 77, -1);
            due(x.judge(0, 0), 502);
        });
        edge(46, TOLD_PLAN, "ahead of the place there may be anything", x -> {
            line(x, 2);
            setRow(x, 0, 99, 0, 0, -1, -1, -1, -1);
            due(x.judge(0, 2), 502);
            due(x.judge(0, 3), 1000);
        });
        edge(46, TOLD_PLAN, "in a row of 40, from the last place that will do", x -> {
            line(x, 1);
            due(x.row(0, 40), 1);
            for (int i = 36; i < 40; i++) due(x.set(0, i, -1), 1);
            due(x.judge(0, 36), 500);
            due(x.judge(0, 35), 2);
            due(x.judge(0, 37), STATE);
        });
        for (int row : NO_ROWS) {
            edge(46, "NONE: row", "row " + row, x -> {
                setRow(x, 0, -1, -1, -1, -1);
                still(x, () -> x.judge(row, 0), NONE);
            });
        }
        edge(46, state, "nothing is in it", x -> {
            setRow(x, 0, -1, -1, -1, -1);
            still(x, () -> x.judge(1, 0), STATE);
        });
        edge(46, state, "a row of none", x -> {
            due(x.row(0, 0), 1);
            due(x.judge(0, 0), STATE);
        });
        edge(46, state, "three -1", x -> {
            line(x, 1);
            setRow(x, 0, -1, -1, -1, 0);
            still(x, () -> x.judge(0, 0), STATE);
        });
        edge(46, state, "the fourth -1 is ahead of the place", x -> {
            setRow(x, 0, -1, -1, -1, -1);
            still(x, () -> x.judge(0, 1), STATE);
        });
        for (int i : new int[] {-1, -4, LEAST, 4, 5, 40, MOST, MOST - 3}) {
            edge(46, state, "i is " + i + " of four", x -> {
                setRow(x, 0, -1, -1, -1, -1);
                still(x, () -> x.judge(0, i), STATE);
            });
        }
        String bad = "BAD: an ORDER that isn't there, or is told twice";
        for (int order : new int[] {2, 12, -2, LEAST, MOST}) {
            edge(46, bad, "order " + order + " of two", x -> {
                line(x, 2);
                setRow(x, 0, 0, -1, -1, order, -1, -1);
                still(x, () -> x.judge(0, 0), BAD);
            });
        }
        edge(46, bad, "told twice in one van", x -> {
            line(x, 2);
            setRow(x, 0, 1, 1, -1, -1, -1, -1);
            still(x, () -> x.judge(0, 0), BAD);
        });
        edge(46, bad, "told twice in two vans", x -> {
            line(x, 2);
            setRow(x, 0, 1, -1, -1, -1, 1, -1);
            still(x, () -> x.judge(0, 0), BAD);
        });
        edge(46, bad, "a row of 0 ints that were never set", x -> {
            line(x, 1);
            due(x.row(0, 6), 1);
            for (int i = 2; i < 6; i++) due(x.set(0, i, -1), 1);
            due(x.judge(0, 0), BAD);
            due(x.judge(0, 1), 2);
        });
        edge(46, "NOT", "back too late", x -> {
            line(x, 2);
            due(x.van(3, 100, 0, 3), 1);
            setRow(x, 0, -1, -1, -1, 1, -1);
            still(x, () -> x.judge(0, 0), NOT);
            setRow(x, 0, -1, -1, -1, 0, -1);
            due(x.judge(0, 0), 502);
        });
        edge(46, "NOT", "begins too late", x -> {
            due(x.order(5, 0, 0, 4, 0), 0);
            setRow(x, 0, 0, -1, -1, -1, -1);
            still(x, () -> x.judge(0, 0), NOT);
        });
        edge(46, "NOT", "too full", x -> {
            line(x, 1);
            due(x.load(0, 1, 11), 0);
            due(x.van(1, 10, 0, 600), 1);
            setRow(x, 0, -1, 0, -1, -1, -1);
            still(x, () -> x.judge(0, 0), NOT);
        });
        edge(46, FIRST_WORD, "NONE, STATE, BAD, NOT", x -> {
            line(x, 2);
            due(x.van(0, 100, 0, 3), 1);
            due(x.judge(4, -1), NONE);
            setRow(x, 0, 1, 9, -1, -1, -1);
            due(x.judge(0, 0), STATE);
            setRow(x, 0, 1, 9, -1, -1, -1, -1);
            due(x.judge(0, 0), BAD);
            setRow(x, 0, 1, 1, -1, -1, -1, -1);
            due(x.judge(0, 0), BAD);
            setRow(x, 0, 1, -1, -1, -1, -1);
            due(x.judge(0, 0), NOT);
        });
    }

    private static void p47Image() {
        String told = "THE IMAGE is taken: how many ORDERS";
        edge(47, told, "none", x -> {
            due(x.image(), 0);
            line(x, 2);
            due(x.undo(), 0);
            due(x.told(0), 0);
            due(x.order(1, 1, 1, 1, 1), 0);
        });
        edge(47, told, "twelve", x -> {
            line(x, 12);
            due(x.image(), 12);
        });
        edge(47, told, "a later one goes for the earlier one", x -> {
            line(x, 2);
            due(x.image(), 2);
            due(x.put(0, 0, 0), 1);
            due(x.image(), 2);
            due(x.put(1, 0, 0), 1);
            due(x.undo(), 2);
            dueRounds(x, "0:0");
        });
        edge(47, told, "nothing is otherwise; steps stay", x -> {
            line(x, 2);
            due(x.put(0, 0, 0), 1);
            still(x, () -> x.image(), 2);
            due(x.back(), 0);
            dueRounds(x, "");
        });
        edge(47, IMAGE, "what is done behind it doesn't change it", x -> {
            line(x, 3);
            due(plan(x, "1:2,0"), 2);
            due(x.image(), 3);
            due(x.move(3, 1, 0, 1), 1);
            due(x.put(1, 1, 0), 1);
            due(x.fill(1), 0);
            due(x.undo(), 3);
            dueRounds(x, "1:2,0");
        });
    }

    private static void p48Undo() {
        String told = "All is as THE IMAGE: how many ORDERS";
        edge(48, "STATE: there is none", "no image was taken", x -> {
            line(x, 1);
            due(x.put(0, 0, 0), 1);
            still(x, () -> x.undo(), STATE);
        });
        edge(48, told, "at once: nothing is otherwise but steps", x -> {
            line(x, 2);
            due(plan(x, "3:1,0"), 2);
            due(x.image(), 2);
            still(x, () -> x.undo(), 2);
        });
        edge(48, told, "again and again", x -> {
            line(x, 2);
            due(x.image(), 2);
            for (int i = 0; i < 3; i++) {
                due(x.put(1, i, 0), 1);
                due(x.undo(), 2);
                dueRounds(x, "");
            }
        });
        edge(48, IMAGE, "ORDERS: those that came later are gone, their numbers come again", x -> {
            line(x, 2);
            due(x.image(), 2);
            due(x.order(9, 9, 9, 9, 9), 2);
            due(x.load(2, 0, 50), 0);
            due(x.load(2, 1, 50), 0);
            due(x.load(2, 2, 1), 500);
            due(x.undo(), 2);
            due(x.of(2, 0), NONE);
            due(x.left(), 3);
            due(x.order(3, 4, 5, 6, 7), 2);
            due(x.of(2, 5), 0);
            due(x.of(2, 6), 0);
            due(x.of(2, 7), 500);
            due(x.way(2, 0), 6);
        });
        edge(48, IMAGE, "ORDERS: loads and penalties", x -> {
            line(x, 1);
            for (int what = 0; what < 3; what++) due(x.load(0, what, 11 + what), what == 2 ? 500 : 0);
            due(x.image(), 1);
            for (int what = 0; what < 3; what++) due(x.load(0, what, 0), 11 + what);
            due(x.undo(), 1);
            for (int what = 0; what < 3; what++) due(x.of(0, 5 + what), 11 + what);
        });
        edge(48, IMAGE, "ORDERS: places and hours of those that came in place of others", x -> {
            due(x.image(), 0);
            due(x.order(1, 2, 3, 4, 5), 0);
            due(x.image(), 1);
            due(x.depot(10, 10), 1);
            due(x.undo(), 1);
            due(x.of(0, 0), 1);
            due(x.of(0, 1), 2);
            due(x.of(0, 2), 3);
            due(x.of(0, 3), 4);
            due(x.of(0, 4), 5);
        });
        edge(48, IMAGE, "VANS", x -> {
            for (int van = 0; van < 4; van++) due(x.van(van, 10 + van, 20 + van, 30 + van), 1);
            due(x.image(), 0);
            for (int van = 0; van < 4; van++) due(x.van(van, 0, 0, 0), 1);
            due(x.undo(), 0);
            for (int van = 0; van < 4; van++) {
                due(x.told(20 + van), 10 + van);
                due(x.told(24 + van), 20 + van);
                due(x.told(28 + van), 30 + van);
            }
        });
        edge(48, IMAGE, "THE DEPOT, and the ways to it", x -> {
            line(x, 1);
            due(x.depot(5, 6), 1);
            due(x.image(), 1);
            due(x.depot(40, 40), 1);
            due(x.undo(), 1);
            due(x.told(9), 5);
            due(x.told(10), 6);
            due(x.way(-1, 0), 10);
            due(x.way(0, -1), 10);
        });
        edge(48, IMAGE, "PRICES, FIXED", x -> {
            due(x.price(0, 2) + x.price(1, 3) + x.price(2, 4), 1);
            due(x.image(), 0);
            due(x.price(0, 0) + x.price(1, 0) + x.price(2, 0), 9);
            due(x.undo(), 0);
            due(x.told(6), 2);
            due(x.told(7), 3);
            due(x.told(8), 4);
        });
        edge(48, IMAGE, "ROUNDS", x -> {
            line(x, 5);
            due(plan(x, "0:4;1:3,1;3:2,0"), 5);
            due(x.image(), 5);
            due(x.ruin(0, 12), 5);
            due(x.fill(1), 5);
            due(x.undo(), 5);
            dueRounds(x, "0:4;1:3,1;3:2,0");
        });
        edge(48, IMAGE, "THE TAPE stays", x -> {
            feed(x, "0,0@");
            due(x.image(), 0);
            due(x.clear(), 4);
            feed(x, "1,2@3-4/");
            due(x.undo(), 0);
            due(x.told(4), 8);
            due(x.feed('5'), 9);
            due(x.orders(), 1);
            due(x.of(0, 0), 1);
        });
        edge(48, IMAGE, "THE PAPER stays", x -> {
            line(x, 1);
            due(x.image(), 1);
            due(x.put(0, 3, 0), 1);
            due(x.spell(), 3);
            due(x.undo(), 1);
            dueRounds(x, "");
            dueText(paper(x), "3:0");
        });
        edge(48, IMAGE, "ROWS stay", x -> {
            setRow(x, 0, 1, 2);
            due(x.image(), 0);
            setRow(x, 0, 3);
            setRow(x, 3, 4, 5, 6);
            due(x.undo(), 0);
            dueText(row(x, 0), "3");
            dueText(row(x, 3), "4 5 6");
        });
        edge(48, FORGOTTEN, "by undo", x -> {
            line(x, 1);
            due(x.put(0, 0, 0), 1);
            due(x.image(), 1);
            due(x.take(0), 0);
            due(x.told(3), 2);
            due(x.undo(), 1);
            due(x.told(3), 0);
            due(x.back(), STATE);
            dueRounds(x, "0:0");
        });
        edge(48, FORGOTTEN, "not by an undo that is refused", x -> {
            line(x, 1);
            due(x.put(0, 0, 0), 1);
            due(x.undo(), STATE);
            due(x.back(), 0);
            dueRounds(x, "");
        });
    }
}
