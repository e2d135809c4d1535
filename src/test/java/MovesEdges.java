/** Promises 24 to 32: orders in and out, moves. */
final class MovesEdges extends Edges {
    private static final String GOOD = "GOOD, a ROUND: each BEGINS at CLOSE at most, it is back at END at most, and what it"
            + " has with it is never above CAPACITY";
    private static final String MAY_BE = "MOVES (each by its KIND and three numbers a, b, c; it MAY be, if all ROUNDS are"
            + " GOOD then, and one at least is otherwise)";
    private static final String SHIFT = "0 SHIFT: ORDER a (of a ROUND) becomes STOP c of VAN b (c 0 .. how many STOPS that"
            + " has without it)";
    private static final String SWAP = "1 SWAP: ORDERS a and b (a below b, both of ROUNDS) change places (c is 0)";
    private static final String CROSS = "2 CROSS: VAN a and VAN b (a below b) change what is behind their first i and j"
            + " STOPS (c is i and 16 times j; i, j from 0 to how many STOPS each has)";
    private static final String TURN = "3 TURN: STOPS b to c (b below c) of VAN a go the other way round";
    private static final String BEST = "BEST of a KIND: of MOVES that MAY be with a GAIN above 0 that with the greatest, of"
            + " several the first (by a, then b, then c)";
    private static final String DESCENT = "DESCENT: as long as there is one, the BEST of the first KIND (0, 1, ..) that has"
            + " one is done (so many at most)";
    private static final String ALWAYS_GOOD = "All ROUNDS are GOOD at all times";

    @Override
    void all() {
        p24Put();
        p24Good();
        p25Would();
        p26Take();
        noSuchMoves();
        nothingOtherwise();
        notGoodThen();
        p27May();
        p28Gain();
        p29Move();
        p30Best();
        p31Descent();
        p32Many();
    }

    private static void p24Put() {
        String told = "An ORDER that is LEFT becomes STOP k (0 .. how many) of a VAN: 1";
        edge(24, told, "stop 0 of a van with none", x -> {
            line(x, 1);
            due(x.put(0, 3, 0), 1);
            dueRounds(x, "3:0");
            due(x.left(), 0);
        });
        edge(24, told, "stop 0, ahead of all", x -> {
            line(x, 3);
            due(plan(x, "1:0,1"), 2);
            due(x.put(2, 1, 0), 1);
            dueRounds(x, "1:2,0,1");
        });
        edge(24, told, "between", x -> {
            line(x, 3);
            due(plan(x, "1:0,1"), 2);
            due(x.put(2, 1, 1), 1);
            dueRounds(x, "1:0,2,1");
        });
        edge(24, told, "how many, behind all", x -> {
            line(x, 3);
            due(plan(x, "1:0,1"), 2);
            due(x.put(2, 1, 2), 1);
            dueRounds(x, "1:0,1,2");
        });
        edge(24, told, "the twelfth", x -> {
            line(x, 12);
            due(plan(x, "0:0,1,2,3,4,5,6,7,8,9,10"), 11);
            due(x.put(11, 0, 11), 1);
            due(x.stops(0), 12);
            due(x.told(1), 0);
        });
        for (int order : new int[] {-1, 2, 12, LEAST, MOST}) {
            edge(24, "NONE: order, van, k", "order " + order + " of two", x -> {
                line(x, 2);
                still(x, () -> x.put(order, 0, 0), NONE);
            });
        }
        for (int van : NO_VANS) {
            edge(24, "NONE: order, van, k", "van " + van, x -> {
                line(x, 1);
                still(x, () -> x.put(0, van, 0), NONE);
            });
        }
        for (int k : new int[] {-1, 3, 12, LEAST, MOST}) {
            edge(24, "NONE: order, van, k", "stop " + k + " where there are two", x -> {
                line(x, 3);
                due(plan(x, "1:0,1"), 2);
                still(x, () -> x.put(2, 1, k), NONE);
            });
        }
        edge(24, "NONE: order, van, k", "stop 1 where there are none", x -> {
            line(x, 1);
            still(x, () -> x.put(0, 0, 1), NONE);
        });
        edge(24, "STATE: it isn't LEFT", "it is in this van", x -> {
            line(x, 1);
            due(x.put(0, 0, 0), 1);
            still(x, () -> x.put(0, 0, 0), STATE);
        });
        edge(24, "STATE: it isn't LEFT", "it is in another van", x -> {
            line(x, 1);
            due(x.put(0, 3, 0), 1);
            still(x, () -> x.put(0, 0, 0), STATE);
        });
        edge(24, "NOT", "in one van, not in another", x -> {
            line(x, 1);
            due(x.van(1, 0, 0, 0), 1);
            still(x, () -> x.put(0, 1, 0), NOT);
            due(x.put(0, 0, 0), 1);
        });
        edge(24, FIRST_WORD, "NONE ahead of STATE", x -> {
            line(x, 1);
            due(x.put(0, 3, 0), 1);
            due(x.put(0, 0, 1), NONE);
            due(x.put(0, 4, 0), NONE);
        });
        edge(24, FIRST_WORD, "STATE ahead of NOT", x -> {
            line(x, 1);
            due(x.van(1, 0, 0, 0), 1);
            due(x.put(0, 3, 0), 1);
            due(x.put(0, 1, 0), STATE);
        });
        edge(24, FIRST_WORD, "NONE ahead of NOT", x -> {
            line(x, 1);
            due(x.van(1, 0, 0, 0), 1);
            due(x.put(0, 1, 1), NONE);
        });
        edge(24, STEP, "by put", x -> {
            line(x, 2);
            due(x.put(0, 0, 0), 1);
            due(x.told(3), 1);
            due(x.put(1, 0, 0), 1);
            due(x.told(3), 2);
            due(x.back(), 1);
            dueRounds(x, "0:0");
        });
    }

    private static void p24Good() {
        edge(24, GOOD, "it begins just at CLOSE", x -> {
            due(x.order(5, 0, 0, 5, 0), 0);
            due(x.put(0, 0, 0), 1);
        });
        edge(24, GOOD, "it begins one hour behind CLOSE", x -> {
            due(x.order(5, 0, 0, 4, 0), 0);
            still(x, () -> x.put(0, 0, 0), NOT);
        });
        edge(24, GOOD, "it begins behind CLOSE, for the van leaves one hour later", x -> {
            due(x.order(5, 0, 0, 5, 0), 0);
            due(x.van(1, 100, 1, 600), 1);
            still(x, () -> x.put(0, 1, 0), NOT);
        });
        edge(24, GOOD, "it is back just at END", x -> {
            due(x.order(5, 0, 7, 600, 3), 0);
            due(x.van(1, 100, 0, 15), 1);
            due(x.put(0, 1, 0), 1);
        });
        edge(24, GOOD, "it is back one hour behind END", x -> {
            due(x.order(5, 0, 7, 600, 3), 0);
            due(x.van(1, 100, 0, 14), 1);
            still(x, () -> x.put(0, 1, 0), NOT);
        });
        edge(24, GOOD, "at the depot, a day without an hour", x -> {
            atTheDepot(x, 1);
            due(x.van(1, 0, 600, 600), 1);
            due(x.put(0, 1, 0), 1);
        });
        edge(24, GOOD, "what is behind begins too late then", x -> {
            due(x.order(5, 0, 0, 8, 0), 0);
            due(x.order(3, 0, 0, 600, 4), 1);
            due(x.put(0, 0, 0), 1);
            still(x, () -> x.put(1, 0, 0), NOT);
            due(x.put(1, 0, 1), 1);
        });
        edge(24, GOOD, "what is behind begins just at CLOSE then", x -> {
            due(x.order(5, 0, 0, 9, 0), 0);
            due(x.order(3, 0, 0, 600, 4), 1);
            due(x.put(0, 0, 0), 1);
            due(x.put(1, 0, 0), 1);
        });
        edge(24, GOOD, "CAPACITY as much as is brought", x -> {
            line(x, 2);
            due(x.load(0, 0, 20), 0);
            due(x.load(1, 0, 30), 0);
            due(x.van(2, 50, 0, 600), 1);
            due(x.put(0, 2, 0), 1);
            due(x.put(1, 2, 0), 1);
        });
        edge(24, GOOD, "CAPACITY one less than what is brought", x -> {
            line(x, 2);
            due(x.load(0, 0, 20), 0);
            due(x.load(1, 0, 30), 0);
            due(x.van(2, 49, 0, 600), 1);
            due(x.put(0, 2, 0), 1);
            still(x, () -> x.put(1, 2, 1), NOT);
        });
        edge(24, GOOD, "CAPACITY one less than what is fetched", x -> {
            line(x, 2);
            due(x.load(0, 1, 20), 0);
            due(x.load(1, 1, 30), 0);
            due(x.van(2, 49, 0, 600), 1);
            due(x.put(0, 2, 0), 1);
            still(x, () -> x.put(1, 2, 1), NOT);
        });
        edge(24, GOOD, "too full between, ahead of what is brought", x -> {
            line(x, 2);
            due(x.load(0, 1, 20), 0);
            due(x.load(1, 0, 30), 0);
            due(x.van(2, 49, 0, 600), 1);
            due(x.put(0, 2, 0), 1);
            still(x, () -> x.put(1, 2, 1), NOT);
            due(x.put(1, 2, 0), 1);
        });
        edge(24, GOOD, "brought and fetched at one stop, not at once", x -> {
            line(x, 1);
            due(x.load(0, 0, 50), 0);
            due(x.load(0, 1, 50), 0);
            due(x.van(2, 50, 0, 600), 1);
            due(x.put(0, 2, 0), 1);
        });
        edge(24, GOOD, "CAPACITY 0 and no loads", x -> {
            line(x, 1);
            due(x.van(2, 0, 0, 600), 1);
            due(x.put(0, 2, 0), 1);
        });
        edge(24, GOOD, "CAPACITY 0 and a load of 1", x -> {
            line(x, 1);
            due(x.load(0, 1, 1), 0);
            due(x.van(2, 0, 0, 600), 1);
            still(x, () -> x.put(0, 2, 0), NOT);
        });
        edge(24, GOOD, "it waits beyond its day", x -> {
            due(x.order(0, 0, 600, 600, 0), 0);
            due(x.van(2, 0, 0, 599), 1);
            still(x, () -> x.put(0, 2, 0), NOT);
        });
    }

    private static void p25Would() {
        String told = "By how much COST of the VAN would become more by that";
        edge(25, told, "into a van with no stops: FIXED, too", x -> {
            line(x, 2);
            due(x.price(2, 7), 0);
            still(x, () -> x.would(1, 0, 0), 11);
        });
        edge(25, told, "on the way: 0", x -> {
            line(x, 2);
            due(x.put(1, 0, 0), 1);
            still(x, () -> x.would(0, 0, 0), 0);
            still(x, () -> x.would(0, 0, 1), 0);
        });
        edge(25, told, "PENALTY doesn't count", x -> {
            line(x, 1);
            due(x.load(0, 2, 9999), 500);
            due(x.would(0, 0, 0), 2);
        });
        edge(25, told, "DURATION counts, a wait within it, too", x -> {
            due(x.order(1, 0, 0, 3, 0), 0);
            due(x.order(1, 0, 10, 20, 2), 1);
            due(x.price(1, 2), 0);
            due(x.put(0, 0, 0), 1);
            due(x.cost(0), 6);
            due(x.would(1, 0, 1), 18);
        });
        edge(25, told, "the depot's own place, all prices 0", x -> {
            atTheDepot(x, 1);
            due(x.price(0, 0), 1);
            due(x.would(0, 3, 0), 0);
        });
        for (int order : new int[] {-1, 1, 12, LEAST, MOST}) {
            edge(25, "NO: order, van, k; it isn't LEFT; NOT", "order " + order + " of one", x -> {
                line(x, 1);
                still(x, () -> x.would(order, 0, 0), NO);
            });
        }
        for (int van : NO_VANS) {
            edge(25, "NO: order, van, k; it isn't LEFT; NOT", "van " + van, x -> {
                line(x, 1);
                still(x, () -> x.would(0, van, 0), NO);
            });
        }
        for (int k : new int[] {-1, 2, LEAST, MOST}) {
            edge(25, "NO: order, van, k; it isn't LEFT; NOT", "stop " + k + " where there is one", x -> {
                line(x, 2);
                due(x.put(1, 0, 0), 1);
                still(x, () -> x.would(0, 0, k), NO);
            });
        }
        edge(25, "NO: order, van, k; it isn't LEFT; NOT", "it isn't left", x -> {
            line(x, 1);
            due(x.put(0, 1, 0), 1);
            still(x, () -> x.would(0, 0, 0), NO);
        });
        edge(25, "NO: order, van, k; it isn't LEFT; NOT", "it closes too early", x -> {
            due(x.order(5, 0, 0, 4, 0), 0);
            still(x, () -> x.would(0, 0, 0), NO);
        });
        edge(25, "NO: order, van, k; it isn't LEFT; NOT", "it is back too late", x -> {
            line(x, 1);
            due(x.van(1, 100, 0, 1), 1);
            still(x, () -> x.would(0, 1, 0), NO);
            due(x.would(0, 0, 0), 2);
        });
        edge(25, "NO: order, van, k; it isn't LEFT; NOT", "it is too full", x -> {
            line(x, 1);
            due(x.load(0, 1, 50), 0);
            due(x.van(1, 49, 0, 600), 1);
            still(x, () -> x.would(0, 1, 0), NO);
        });
    }

    private static void p26Take() {
        String told = "An ORDER is taken out (it is LEFT then; the ROUND stays GOOD, for no WAY is longer than one by another"
                + " place): its VAN";
        edge(26, told, "the first, between, the last, the only one", x -> {
            line(x, 4);
            due(plan(x, "2:3,1,0,2"), 4);
            due(x.take(1), 2);
            dueRounds(x, "2:3,0,2");
            due(x.take(3), 2);
            dueRounds(x, "2:0,2");
            due(x.take(2), 2);
            dueRounds(x, "2:0");
            due(x.take(0), 2);
            dueRounds(x, "");
            due(x.left(), 15);
        });
        edge(26, told, "of van 0 and of van 3", x -> {
            line(x, 2);
            due(plan(x, "0:0;3:1"), 2);
            due(x.take(0), 0);
            due(x.take(1), 3);
        });
        edge(26, told, "one of twelve", x -> {
            line(x, 12);
            due(plan(x, "1:0,1,2,3,4,5,6,7,8,9,10,11"), 12);
            due(x.take(0), 1);
            dueRounds(x, "1:1,2,3,4,5,6,7,8,9,10,11");
        });
        for (int order : new int[] {-1, 1, 12, LEAST, MOST}) {
            edge(26, "NONE", "order " + order + " of one", x -> {
                line(x, 1);
                due(x.put(0, 0, 0), 1);
                still(x, () -> x.take(order), NONE);
            });
        }
        edge(26, "STATE: it is LEFT", "it never was in a round", x -> {
            line(x, 1);
            still(x, () -> x.take(0), STATE);
        });
        edge(26, "STATE: it is LEFT", "taken out twice", x -> {
            line(x, 2);
            due(plan(x, "0:0,1"), 2);
            due(x.take(0), 0);
            still(x, () -> x.take(0), STATE);
        });
        edge(26, ALWAYS_GOOD, "one of a tight round is taken out", x -> {
            tight(x);
            due(x.take(0), 0);
            due(x.driven(0, 0, 2), 6);
            due(x.slack(0, 0), 1);
            due(x.row(0, 6), 1);
            due(x.lay(0, 0), 6);
            due(x.judge(0, 0), x.cost(-1));
        });
        edge(26, STEP, "by take", x -> {
            line(x, 2);
            due(plan(x, "0:0,1"), 2);
            due(x.take(0), 0);
            due(x.told(3), 1);
            due(x.back(), 0);
            dueRounds(x, "0:0,1");
        });
    }

    /** Of four orders 3 and 0 in van 0, 1 and 2 in van 1; van 3 goes no farther than to 1. */
    private static void crossed(RoundSlack x) {
        line(x, 4);
        due(x.van(3, 100, 0, 5), 1);
        due(plan(x, "0:3,0;1:1,2"), 4);
    }

    private static void noSuch(String sentence, String which, int kind, int a, int b, int c) {
        noSuchBehind(x -> crossed(x), sentence, which, kind, a, b, c);
    }

    private static void noSuchBehind(Calls ahead, String sentence, String which, int kind, int a, int b, int c) {
        String told = which + " (" + kind + ", " + a + ", " + b + ", " + c + ")";
        edge(27, sentence, "may: " + told, x -> {
            ahead.on(x);
            still(x, () -> x.may(kind, a, b, c), NONE);
        });
        edge(28, sentence, "gain: " + told, x -> {
            ahead.on(x);
            still(x, () -> x.gain(kind, a, b, c), NO);
        });
        edge(29, sentence, "move: " + told, x -> {
            ahead.on(x);
            still(x, () -> x.move(kind, a, b, c), NONE);
        });
    }

    private static void takenOut(RoundSlack x, int order) {
        crossed(x);
        due(x.take(order), 0);
    }

    private static void noSuchMoves() {
        for (int none : new int[] {-1, 4, LEAST, MOST}) {
            noSuch("MOVES (each by its KIND and three numbers a, b, c", "no such kind", none, 0, 1, 0);
            noSuch(SHIFT, "no such order", 0, none, 0, 0);
            noSuch(SHIFT, "no such van", 0, 0, none, 0);
            noSuch(SWAP, "no such order", 1, 0, none, 0);
            noSuch(SWAP, "no such order", 1, none, 1, 0);
            noSuch(CROSS, "no such van", 2, 0, none, 0);
            noSuch(CROSS, "no such van", 2, none, 3, 0);
            noSuch(TURN, "no such van", 3, none, 0, 1);
        }
        for (int c : new int[] {-1, 2, 16, LEAST, MOST}) noSuch(SHIFT, "own van, no such stop", 0, 0, 0, c);
        for (int c : new int[] {-1, 3, LEAST, MOST}) noSuch(SHIFT, "another van, no such stop", 0, 0, 1, c);
        noSuch(SHIFT, "a van with no stops, no such stop", 0, 0, 2, 1);
        noSuch(SWAP, "a is b", 1, 1, 1, 0);
        noSuch(SWAP, "a is above b", 1, 1, 0, 0);
        for (int c : new int[] {-1, 1, LEAST, MOST}) noSuch(SWAP, "c isn't 0", 1, 0, 1, c);
        noSuch(CROSS, "a is b", 2, 1, 1, 0);
        noSuch(CROSS, "a is above b", 2, 1, 0, 0);
        for (int c : new int[] {-1, -16, 3, 15, 16 + 3, 48, 48 + 2, 256, LEAST, MOST}) noSuch(CROSS, "no such i or j", 2, 0, 1, c);
        noSuch(CROSS, "i of a van with no stops", 2, 2, 3, 1);
        noSuch(CROSS, "j of a van with no stops", 2, 2, 3, 16);
        noSuch(TURN, "b is c", 3, 0, 0, 0);
        noSuch(TURN, "b is above c", 3, 0, 1, 0);
        for (int none : new int[] {-1, LEAST}) noSuch(TURN, "no such b", 3, 0, none, 1);
        for (int none : new int[] {2, MOST}) noSuch(TURN, "no such c", 3, 0, 0, none);
        noSuch(TURN, "a van with no stops", 3, 2, 0, 1);
        noSuchBehind(x -> takenOut(x, 0), SHIFT, "an order that is left", 0, 0, 0, 0);
        noSuchBehind(x -> takenOut(x, 0), SHIFT, "an order that is left", 0, 0, 2, 0);
        noSuchBehind(x -> takenOut(x, 0), SWAP, "a is left", 1, 0, 1, 0);
        noSuchBehind(x -> takenOut(x, 3), SWAP, "b is left", 1, 0, 3, 0);
        noSuchBehind(x -> takenOut(x, 0), TURN, "one stop alone", 3, 0, 0, 1);
        noSuchBehind(x -> takenOut(x, 0), CROSS, "i is 2 behind a take", 2, 0, 1, 2);
        edge(27, "NONE: no such KIND, or no such numbers for it", "kind 4", x -> due(x.may(4, 0, 0, 0), NONE));
        edge(28, "NO: as NONE; it MAY not be", "kind 4, and a shift to where it is", x -> {
            crossed(x);
            due(x.gain(4, 0, 0, 0), NO);
            due(x.gain(0, 3, 0, 0), NO);
        });
        edge(29, "NONE; STATE: nothing would be otherwise; NOT", "each", x -> {
            crossed(x);
            due(x.move(4, 0, 0, 0), NONE);
            due(x.move(0, 3, 0, 0), STATE);
            due(x.move(0, 3, 3, 0), NOT);
        });
    }

    /** The numbers are those of a move, but it MAY not be. */
    private static void mayNot(String sentence, String which, int due, Calls ahead, int... m) {
        String told = which + " (" + m[0] + ", " + m[1] + ", " + m[2] + ", " + m[3] + ")";
        edge(27, sentence, "may: " + told, x -> {
            ahead.on(x);
            still(x, () -> x.may(m[0], m[1], m[2], m[3]), 0);
        });
        edge(28, sentence, "gain: " + told, x -> {
            ahead.on(x);
            still(x, () -> x.gain(m[0], m[1], m[2], m[3]), NO);
        });
        edge(29, sentence, "move: " + told, x -> {
            ahead.on(x);
            still(x, () -> x.move(m[0], m[1], m[2], m[3]), due);
        });
    }

    private static void nothingOtherwise() {
        mayNot(MAY_BE, "shift to where it is", STATE, x -> crossed(x), 0, 0, 0, 1);
        mayNot(MAY_BE, "shift to where it is", STATE, x -> crossed(x), 0, 1, 1, 0);
        mayNot(MAY_BE, "shift of the only stop", STATE, x -> {
            line(x, 1);
            due(x.put(0, 2, 0), 1);
        }, 0, 0, 2, 0);
        mayNot(MAY_BE, "cross of no tails", STATE, x -> crossed(x), 2, 0, 1, 2 + 32);
        mayNot(MAY_BE, "cross of no tail and none", STATE, x -> crossed(x), 2, 0, 2, 2);
        mayNot(MAY_BE, "cross of none and no tail", STATE, x -> {
            line(x, 1);
            due(x.put(0, 2, 0), 1);
        }, 2, 0, 2, 16);
        mayNot(MAY_BE, "cross of vans with no stops", STATE, x -> crossed(x), 2, 2, 3, 0);
    }

    /** 0 closes when the van can just be there, in van 0 ahead of 1; 2 in van 1. */
    private static void tight(RoundSlack x) {
        due(x.order(5, 0, 0, 5, 1), 0);
        due(x.order(6, 0, 0, 7, 1), 1);
        due(x.order(2, 0, 0, 600, 1), 2);
        due(x.load(2, 0, 30), 0);
        due(x.load(0, 1, 30), 0);
        due(plan(x, "0:0,1;1:2"), 3);
    }

    private static void notGoodThen() {
        mayNot(GOOD, "shift, back too late", NOT, x -> crossed(x), 0, 2, 3, 0);
        mayNot(GOOD, "shift, behind CLOSE within its van", NOT, x -> tight(x), 0, 0, 0, 1);
        mayNot(GOOD, "shift, what is behind is behind CLOSE", NOT, x -> tight(x), 0, 2, 0, 0);
        mayNot(GOOD, "swap, behind CLOSE", NOT, x -> tight(x), 1, 0, 1, 0);
        mayNot(GOOD, "swap, the other van's is behind CLOSE", NOT, x -> {
            tight(x);
            due(x.take(2), 1);
            due(x.van(1, 100, 2, 600), 1);
            due(x.put(2, 1, 0), 1);
        }, 1, 1, 2, 0);
        mayNot(GOOD, "cross, back too late", NOT, x -> crossed(x), 2, 0, 3, 0);
        mayNot(GOOD, "cross, behind CLOSE in the first", NOT, x -> {
            tight(x);
            due(plan(x, "0:2;1:0,1"), 3);
        }, 2, 0, 1, 1);
        mayNot(GOOD, "cross, behind CLOSE in the second", NOT, x -> tight(x), 2, 0, 1, 16);
        mayNot(GOOD, "turn, behind CLOSE", NOT, x -> tight(x), 3, 0, 0, 1);
        mayNot(GOOD, "shift, too full", NOT, x -> {
            tight(x);
            due(x.take(2), 1);
            due(x.take(1), 0);
            due(x.take(0), 0);
            due(x.van(0, 59, 0, 600), 1);
            due(plan(x, "0:0;1:2"), 2);
        }, 0, 2, 0, 1);
        mayNot(GOOD, "turn, too full between", NOT, x -> {
            line(x, 2);
            due(x.load(0, 0, 50), 0);
            due(x.load(1, 1, 50), 0);
            due(x.van(0, 99, 0, 600), 1);
            due(plan(x, "0:0,1"), 2);
        }, 3, 0, 0, 1);
    }

    private static void p27May() {
        String told = "Whether a MOVE MAY be: 1, 0";
        edge(27, told, "each kind, where it may", x -> {
            crossed(x);
            still(x, () -> x.may(0, 0, 0, 0), 1);
            due(x.may(1, 0, 1, 0), 1);
            due(x.may(2, 0, 1, 0), 1);
            due(x.may(3, 0, 0, 1), 1);
        });
        edge(27, SHIFT, "the greatest c of the own van", x -> {
            crossed(x);
            due(x.may(0, 3, 0, 1), 1);
            due(x.may(0, 3, 0, 2), NONE);
        });
        edge(27, SHIFT, "the greatest c of another van", x -> {
            crossed(x);
            due(x.may(0, 3, 1, 2), 1);
            due(x.may(0, 3, 1, 3), NONE);
        });
        edge(27, SHIFT, "the own van of twelve stops, another of none", x -> {
            line(x, 12);
            due(plan(x, "0:0,1,2,3,4,5,6,7,8,9,10,11"), 12);
            due(x.may(0, 0, 0, 11), 1);
            due(x.may(0, 0, 0, 12), NONE);
            due(x.may(0, 0, 3, 0), 1);
        });
        edge(27, CROSS, "whole rounds, both tails, one tail", x -> {
            crossed(x);
            due(x.may(2, 0, 1, 0), 1);
            due(x.may(2, 0, 1, 17), 1);
            due(x.may(2, 0, 1, 2), 1);
            due(x.may(2, 0, 1, 32), 1);
        });
        edge(27, CROSS, "twelve stops: i is 12, j is 12", x -> {
            line(x, 12);
            due(plan(x, "1:0,1,2,3,4,5,6,7,8,9,10,11"), 12);
            due(x.may(2, 1, 2, 11), 1);
            due(x.may(2, 1, 2, 12), 0);
            due(x.may(2, 1, 2, 13), NONE);
            due(x.may(2, 0, 1, 16 * 11), 1);
            due(x.may(2, 0, 1, 16 * 12), 0);
            due(x.may(2, 0, 1, 16 * 13), NONE);
        });
        edge(27, TURN, "two neighbours, the whole round", x -> {
            line(x, 3);
            due(plan(x, "3:0,1,2"), 3);
            due(x.may(3, 3, 1, 2), 1);
            due(x.may(3, 3, 0, 2), 1);
            due(x.may(3, 3, 0, 3), NONE);
        });
        edge(27, MAY_BE, "a gain below 0 is no matter", x -> {
            crossed(x);
            due(x.price(2, 999), 0);
            due(x.may(0, 0, 2, 0), 1);
        });
    }

    private static void p28Gain() {
        String told = "GAIN of a MOVE: COST of all less what it is then";
        edge(28, "GAIN of a MOVE", "0", x -> {
            crossed(x);
            still(x, () -> x.gain(0, 0, 1, 0), 0);
        });
        edge(28, told, "above 0", x -> {
            crossed(x);
            still(x, () -> x.gain(0, 3, 1, 1), 4);
        });
        edge(28, told, "below 0: -1", x -> {
            atTheDepot(x, 2);
            due(x.price(2, 1), 0);
            due(plan(x, "0:0,1"), 2);
            due(x.gain(0, 0, 1, 0), -1);
        });
        edge(28, told, "a van has no stops then: FIXED is less", x -> {
            crossed(x);
            due(x.price(2, 100), 0);
            due(x.gain(2, 0, 1, 32), 100 + 6);
        });
        edge(28, told, "a van has its first stop then: FIXED is more", x -> {
            crossed(x);
            due(x.price(2, 100), 0);
            due(x.gain(0, 0, 2, 0), -102);
        });
        edge(28, told, "it is by that much less, once it is done", x -> {
            crossed(x);
            due(x.price(1, 3), 0);
            int cost = x.cost(-1);
            long gain = x.gain(2, 0, 1, 17);
            due(x.move(2, 0, 1, 17), 1);
            due(cost - x.cost(-1), gain);
        });
    }

    private static void p29Move() {
        edge(29, "A MOVE is done: 1", "shift within a van, forth", x -> {
            line(x, 4);
            due(plan(x, "1:0,1,2,3"), 4);
            due(x.move(0, 0, 1, 2), 1);
            dueRounds(x, "1:1,2,0,3");
        });
        edge(29, "A MOVE is done: 1", "shift within a van, to the front and to the end", x -> {
            line(x, 4);
            due(plan(x, "1:0,1,2,3"), 4);
            due(x.move(0, 2, 1, 0), 1);
            dueRounds(x, "1:2,0,1,3");
            due(x.move(0, 0, 1, 3), 1);
            dueRounds(x, "1:2,1,3,0");
        });
        edge(29, SHIFT, "to another van: front, end, none there", x -> {
            crossed(x);
            due(x.move(0, 3, 1, 2), 1);
            dueRounds(x, "0:0;1:1,2,3");
            due(x.move(0, 0, 1, 0), 1);
            dueRounds(x, "1:0,1,2,3");
            due(x.move(0, 0, 3, 0), 1);
            dueRounds(x, "1:1,2,3;3:0");
        });
        edge(29, SWAP, "in one van, in two", x -> {
            crossed(x);
            due(x.move(1, 0, 3, 0), 1);
            dueRounds(x, "0:0,3;1:1,2");
            due(x.move(1, 0, 2, 0), 1);
            dueRounds(x, "0:2,3;1:1,0");
        });
        edge(29, CROSS, "behind i and j", x -> {
            crossed(x);
            due(x.move(2, 0, 1, 1 + 16), 1);
            dueRounds(x, "0:3,2;1:1,0");
        });
        edge(29, CROSS, "i is 0, j is 1", x -> {
            crossed(x);
            due(x.move(2, 0, 1, 16), 1);
            dueRounds(x, "0:2;1:1,3,0");
        });
        edge(29, CROSS, "i is 1, j is 0", x -> {
            crossed(x);
            due(x.move(2, 0, 1, 1), 1);
            dueRounds(x, "0:3,1,2;1:0");
        });
        edge(29, CROSS, "whole rounds change", x -> {
            crossed(x);
            due(x.move(2, 0, 1, 0), 1);
            dueRounds(x, "0:1,2;1:3,0");
        });
        edge(29, CROSS, "all comes to the one, to the other", x -> {
            crossed(x);
            due(x.move(2, 0, 1, 2), 1);
            dueRounds(x, "0:3,0,1,2");
            due(x.move(2, 0, 1, 0), 1);
            dueRounds(x, "1:3,0,1,2");
        });
        edge(29, CROSS, "twelve stops in one van", x -> {
            line(x, 12);
            due(plan(x, "2:0,1,2,3,4,5;3:6,7,8,9,10,11"), 12);
            due(x.move(2, 2, 3, 6), 1);
            dueRounds(x, "2:0,1,2,3,4,5,6,7,8,9,10,11");
            due(x.move(2, 2, 3, 1), 1);
            dueRounds(x, "2:0;3:1,2,3,4,5,6,7,8,9,10,11");
        });
        edge(29, TURN, "neighbours, some, all", x -> {
            line(x, 5);
            due(plan(x, "2:0,1,2,3,4"), 5);
            due(x.move(3, 2, 0, 1), 1);
            dueRounds(x, "2:1,0,2,3,4");
            due(x.move(3, 2, 2, 4), 1);
            dueRounds(x, "2:1,0,4,3,2");
            due(x.move(3, 2, 0, 4), 1);
            dueRounds(x, "2:2,3,4,0,1");
        });
        edge(29, "A MOVE is done: 1", "also where all costs more then", x -> {
            crossed(x);
            due(x.gain(0, 0, 2, 0) < 0 ? 1 : 0, 1);
            due(x.move(0, 0, 2, 0), 1);
        });
        edge(29, STEP, "by move, once each", x -> {
            crossed(x);
            due(x.move(3, 0, 0, 1), 1);
            due(x.move(1, 0, 1, 0), 1);
            due(x.told(3), 2);
            due(x.back(), 1);
            dueRounds(x, "0:0,3;1:1,2");
            due(x.back(), 0);
            dueRounds(x, "0:3,0;1:1,2");
        });
        edge(29, STEP, "not by a move that isn't done", x -> {
            crossed(x);
            due(x.move(0, 3, 0, 0), STATE);
            due(x.move(0, 3, 3, 0), NOT);
            due(x.move(0, 4, 0, 0), NONE);
            due(x.told(3), 0);
        });
        edge(29, ALWAYS_GOOD, "none begins too late, none is back too late", x -> {
            tight(x);
            for (int kind = 0; kind < 4; kind++) {
                for (int a = 0; a < 3; a++) {
                    for (int b = 0; b < 3; b++) {
                        x.move(kind, a, b, (a + b) % 3);
                        due(x.slack(0, 0) >= 0 && x.slack(1, 0) >= 0 && x.slack(2, 0) >= 0 ? 1 : 0, 1);
                        due(x.whole(0, 6) <= 100 && x.whole(1, 6) <= 100 ? 1 : 0, 1);
                    }
                }
            }
        });
    }

    /** Two places 10 from the depot and 20 from one another: orders 0 and 2 at the one, 1 and 3 at the other. */
    private static void corners(RoundSlack x, String plan, int stops) {
        places(x, 10, 0, 0, 10, 10, 0, 0, 10);
        due(plan(x, plan), stops);
    }

    /** a, b, c, GAIN; or nothing, where there is no best one. */
    private static void dueBest(RoundSlack x, int kind, int... want) {
        for (int what = 0; what < 3; what++) due(x.best(kind, what), want.length == 4 ? want[what] : LACK);
        still(x, () -> x.best(kind, 3), want.length == 4 ? want[3] : LACK);
    }

    private static void p30Best() {
        String told = "Of the BEST of a KIND what 0 a, 1 b, 2 c, 3 GAIN; -5: there is none";
        edge(30, told, "shift", x -> {
            corners(x, "1:0,1,2", 3);
            dueBest(x, 0, 0, 1, 1, 20);
        });
        edge(30, told, "swap", x -> {
            corners(x, "0:0,1;3:3,2", 4);
            dueBest(x, 1, 0, 3, 0, 40);
        });
        edge(30, told, "cross", x -> {
            corners(x, "0:0,1;3:3,2", 4);
            dueBest(x, 2, 0, 3, 17, 40);
        });
        edge(30, told, "cross, j is more than the first van's stops", x -> {
            corners(x, "1:0;2:1,3,2", 4);
            dueBest(x, 2, 1, 2, 1 + 16 * 2, 20);
        });
        edge(30, told, "turn", x -> {
            corners(x, "2:0,1,2,3", 4);
            dueBest(x, 3, 2, 1, 2, 40);
        });
        for (int kind = 0; kind < 4; kind++) {
            int one = kind;
            edge(30, "-5: there is none", "no stops, kind " + kind, x -> {
                line(x, 2);
                dueBest(x, one);
            });
            edge(30, BEST, "a GAIN of 0 is none, kind " + kind, x -> {
                atTheDepot(x, 4);
                due(plan(x, "0:0,1;1:2,3"), 4);
                due(x.many(one) > 0 ? 1 : 0, 1);
                dueBest(x, one);
            });
        }
        edge(30, BEST, "a GAIN of 1", x -> {
            atTheDepot(x, 2);
            due(x.price(2, 1), 0);
            due(plan(x, "0:0;1:1"), 2);
            dueBest(x, 0, 0, 1, 0, 1);
            dueBest(x, 2, 0, 1, 1, 1);
        });
        edge(30, BEST, "of several the first by a", x -> {
            atTheDepot(x, 2);
            due(x.price(2, 5), 0);
            due(plan(x, "2:1;3:0"), 2);
            dueBest(x, 0, 0, 2, 0, 5);
        });
        edge(30, BEST, "of several the first by b", x -> {
            atTheDepot(x, 3);
            due(x.price(2, 5), 0);
            due(plan(x, "1:2;2:1;3:0"), 3);
            dueBest(x, 0, 0, 1, 0, 5);
        });
        edge(30, BEST, "of several the first by c", x -> {
            atTheDepot(x, 3);
            due(x.price(2, 5), 0);
            due(plan(x, "1:2,1;3:0"), 3);
            dueBest(x, 0, 0, 1, 0, 5);
        });
        edge(30, BEST, "of several the first by a, swaps", x -> {
            corners(x, "0:0,1;1:2,3", 4);
            dueBest(x, 1, 0, 3, 0, 40);
        });
        edge(30, BEST, "of several the first by b, swaps", x -> {
            places(x, 10, 0, 10, 0, 0, 10, 0, 10);
            due(plan(x, "0:0;1:2,1,3"), 4);
            due(x.gain(1, 0, 3, 0), 20);
            due(x.gain(1, 1, 2, 0), 20);
            dueBest(x, 1, 0, 2, 0, 20);
        });
        edge(30, BEST, "of several the first by c, crosses: tails to the first van", x -> {
            atTheDepot(x, 2);
            due(x.price(2, 5), 0);
            due(plan(x, "0:1;1:0"), 2);
            dueBest(x, 2, 0, 1, 1, 5);
        });
        edge(30, BEST, "of several the first by b, crosses", x -> {
            atTheDepot(x, 3);
            due(x.price(2, 5), 0);
            due(plan(x, "1:0;2:1;3:2"), 3);
            dueBest(x, 2, 1, 2, 1, 5);
        });
        edge(30, BEST, "of several the first by b, turns", x -> {
            corners(x, "1:0,1,2", 3);
            dueBest(x, 3, 1, 0, 1, 20);
        });
        edge(30, BEST, "of several the first by a, turns", x -> {
            places(x, 10, 0, 0, 10, 10, 0, 0, 10, 10, 0, 0, 10);
            due(plan(x, "1:1,0,3;3:2,5,4"), 6);
            due(x.gain(3, 3, 0, 1), 20);
            dueBest(x, 3, 1, 0, 1, 20);
        });
        edge(30, BEST, "the greatest isn't the first", x -> {
            crossed(x);
            due(x.gain(0, 2, 0, 1), 2);
            dueBest(x, 0, 3, 1, 1, 4);
        });
        edge(30, BEST, "not one that isn't GOOD", x -> {
            due(x.order(10, 0, 0, 10, 0), 0);
            due(x.order(0, 10, 0, 30, 0), 1);
            due(x.order(10, 0, 50, 600, 0), 2);
            due(plan(x, "0:0,1,2"), 3);
            // To turn 1 and 2 would cost 20 less, but 1 closes too early for that.
            dueBest(x, 3);
        });
        for (int kind : new int[] {-1, 4, LEAST, MOST}) {
            edge(30, "NONE: kind, what", "kind " + kind, x -> {
                crossed(x);
                still(x, () -> x.best(kind, 0), NONE);
            });
        }
        for (int what : new int[] {-1, 4, LEAST, MOST}) {
            edge(30, "NONE: kind, what", "what " + what, x -> {
                crossed(x);
                still(x, () -> x.best(0, what), NONE);
            });
        }
        edge(30, FIRST_WORD, "NONE, not -5, with no stops", x -> {
            due(x.best(0, 4), NONE);
            due(x.best(4, 0), NONE);
        });
    }

    private static void p31Descent() {
        String told = "DESCENT of n (1 .. 40) at most: how many were done";
        edge(31, told, "one at most", x -> {
            crossed(x);
            due(x.descent(1), 1);
            dueRounds(x, "0:0;1:1,3,2");
        });
        edge(31, told, "40 at most, two are enough", x -> {
            crossed(x);
            due(x.descent(40), 2);
            dueRounds(x, "1:0,1,3,2");
        });
        edge(31, told, "as many as there are", x -> {
            crossed(x);
            due(x.descent(2), 2);
            dueRounds(x, "1:0,1,3,2");
        });
        for (int n : new int[] {0, 41, -1, LEAST, MOST}) {
            edge(31, "BAD", "n is " + n, x -> {
                crossed(x);
                still(x, () -> x.descent(n), BAD);
            });
        }
        edge(31, DESCENT, "none is better: 0", x -> {
            crossed(x);
            due(x.descent(40), 2);
            still(x, () -> x.descent(40), 0);
            still(x, () -> x.descent(1), 0);
        });
        edge(31, DESCENT, "no stops at all: 0", x -> {
            line(x, 2);
            still(x, () -> x.descent(40), 0);
        });
        edge(31, DESCENT, "kind 0 goes ahead of kind 2, which has a greater GAIN", x -> {
            crossed(x);
            due(x.best(0, 3), 4);
            due(x.best(2, 3), 6);
            due(x.descent(1), 1);
            dueRounds(x, "0:0;1:1,3,2");
        });
        edge(31, DESCENT, "the first kind that has one is kind 1, behind that kind 0 again", x -> {
            places(x, 0, 3, 3, 1, 0, 0, 4, 0, 1, 4);
            due(plan(x, "0:4,0,2,3,1"), 5);
            dueBest(x, 0);
            dueBest(x, 1, 1, 2, 0, 2);
            due(x.descent(1), 1);
            dueRounds(x, "0:4,0,1,3,2");
            due(x.back(), 0);
            due(x.descent(40), 2);
            dueRounds(x, "0:0,4,1,3,2");
        });
        edge(31, DESCENT, "the first kind that has one is kind 2, behind that kind 0 again", x -> {
            places(x, 1, 3, 3, 1, 4, 0, 0, 2, 0, 4);
            due(plan(x, "0:3,0,4;1:1,2"), 5);
            due(x.best(0, 3), LACK);
            due(x.best(1, 3), LACK);
            dueBest(x, 2, 0, 1, 3, 2);
            due(x.descent(1), 1);
            dueRounds(x, "0:3,0,4,1,2");
            due(x.back(), 0);
            due(x.descent(40), 2);
            dueRounds(x, "0:3,4,0,1,2");
        });
        edge(31, DESCENT, "the first kind that has one is kind 3, the last", x -> {
            places(x, 3, 0, 2, 2, 1, 0, 2, 4, 1, 3, 3, 0);
            due(plan(x, "0:0,5,2,4,3,1"), 6);
            for (int kind = 0; kind < 3; kind++) due(x.best(kind, 0), LACK);
            due(x.cost(0), 16);
            due(x.descent(40), 1);
            dueRounds(x, "0:0,5,1,3,4,2");
            due(x.cost(0), 14);
        });
        edge(31, STEP, "by descent: one, however many were done", x -> {
            crossed(x);
            due(x.descent(40), 2);
            due(x.told(3), 1);
            due(x.back(), 0);
            dueRounds(x, "0:3,0;1:1,2");
        });
        edge(31, STEP, "by descent: behind other steps", x -> {
            line(x, 2);
            due(x.put(1, 0, 0), 1);
            due(x.put(0, 3, 0), 1);
            due(x.descent(40), 1);
            due(x.told(3), 3);
            due(x.back(), 2);
            dueRounds(x, "0:1;3:0");
        });
        edge(31, DESCENT, "a GAIN of 1", x -> {
            atTheDepot(x, 2);
            due(x.price(2, 1), 0);
            due(plan(x, "0:0;1:1"), 2);
            due(x.descent(40), 1);
            dueRounds(x, "1:0,1");
        });
        edge(31, STEP, "not by a descent that does none", x -> {
            line(x, 1);
            due(x.put(0, 0, 0), 1);
            due(x.descent(40), 0);
            due(x.told(3), 1);
        });
        edge(31, "(so many at most)", "the rest is done by the next", x -> {
            crossed(x);
            due(x.descent(1), 1);
            due(x.descent(1), 1);
            due(x.descent(1), 0);
            dueRounds(x, "1:0,1,3,2");
            due(x.told(3), 2);
        });
    }

    private static void p32Many() {
        String told = "How many MOVES of a KIND MAY be";
        int[][] ofOne = {{1, 3, 0, 3, 0}, {2, 8, 1, 6, 1}, {12, 168, 66, 36, 66}};
        for (int[] row : ofOne) {
            for (int kind = 0; kind < 4; kind++) {
                int one = kind;
                edge(32, told, "kind " + kind + ", " + row[0] + " stops of one van", x -> {
                    line(x, row[0]);
                    due(x.fill(2), row[0]);
                    due(x.stops(0), row[0]);
                    due(x.many(one), row[1 + one]);
                });
            }
        }
        for (int n : new int[] {1, 2, 12}) {
            edge(32, CROSS, n + " stops of the last van, none of the others", x -> {
                line(x, n);
                due(plan(x, "3:0,1,2,3,4,5,6,7,8,9,10,11".substring(0, n < 11 ? 1 + 2 * n : 27)), n);
                due(x.many(2), 3 * n);
            });
        }
        for (int kind = 0; kind < 4; kind++) {
            int one = kind;
            edge(32, told, "kind " + kind + ", no stops", x -> {
                line(x, 3);
                still(x, () -> x.many(one), 0);
            });
            edge(32, told, "kind " + kind + ", no orders", x -> still(x, () -> x.many(one), 0));
            edge(32, told, "kind " + kind + ", not those that aren't GOOD or do nothing", x -> {
                crossed(x);
                int may = 0;
                for (int a = 0; a < 4; a++) {
                    for (int b = 0; b < 4; b++) {
                        for (int c = 0; c < (one != 2 ? 4 : a < b ? 36 : 0); c++) {
                            if (x.may(one, a, b, c) == 1) may++;
                        }
                    }
                }
                due(x.many(one), may);
                due(may, new int[] {22, 6, 13, 2}[one]);
            });
        }
        edge(32, told, "asked again and again, the same", x -> {
            crossed(x);
            for (int i = 0; i < 2; i++) {
                for (int kind = 0; kind < 4; kind++) due(x.many(kind), new int[] {22, 6, 13, 2}[kind]);
                due(x.best(0, 3), 4);
                due(x.many(0), 22);
                due(x.best(3, 3), LACK);
            }
        });
        for (int kind : new int[] {-1, 4, LEAST, MOST}) {
            edge(32, "NONE", "kind " + kind, x -> {
                crossed(x);
                still(x, () -> x.many(kind), NONE);
            });
        }
    }
}
