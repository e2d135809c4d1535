/** Promises 15 to 23: rounds, driven and by pieces. */
final class RoundsEdges extends Edges {
    private static final String DRIVEN = "DRIVEN, a ROUND: the VAN leaves THE DEPOT at START; it comes to each STOP in turn,"
            + " and to THE DEPOT at last, behind the WAY from the one ahead; it BEGINS as it comes, or at OPEN, if that is"
            + " later (WAIT: how much), and leaves SERVICE later";
    private static final String LOADS = "It has all DOWN of its ROUND with it as it leaves THE DEPOT; at each STOP DOWN is"
            + " less, then UP is more: LOAD, behind that";
    private static final String DURATION = "DURATION: of all hours at which its first STOP can BEGIN (so that none BEGINS"
            + " behind CLOSE) the least time from then to when the last one is left";
    private static final String EARLY_LATE = "EARLY, LATE: the least, the greatest hour at which the first one can BEGIN with"
            + " that DURATION; LATE is also the latest at which it can BEGIN at all";
    private static final String TOP = "TOP: the most it ever has with it within the PIECE of what belongs to that";
    private static final String WHOLE = "The whole ROUND is a PIECE with THE DEPOT (from START to END, SERVICE 0) at both ends";
    private static final String COST_OF_VAN = "COST of a VAN: 0 with no STOPS; else FIXED, and DRIVE and DURATION of the"
            + " whole ROUND times their PRICES";
    private static final String COST_OF_ALL = "COST of all: of the VANS, and the PENALTIES of ORDERS that are LEFT";

    @Override
    void all() {
        p15Stops();
        p16Stop();
        p17Driven();
        p18Latest();
        p19Slack();
        p20Piece();
        p20Loads();
        p21Whole();
        p22Cost();
        p23Left();
    }

    private static void p15Stops() {
        edge(15, "How many STOPS a VAN has", "none", x -> {
            line(x, 1);
            for (int van = 0; van < 4; van++) due(x.stops(van), 0);
        });
        edge(15, "How many STOPS a VAN has", "all twelve", x -> {
            line(x, 12);
            due(plan(x, "3:0,1,2,3,4,5,6,7,8,9,10,11"), 12);
            due(x.stops(3), 12);
            due(x.stops(2), 0);
        });
        edge(15, "an ORDER is in one ROUND at most, or it is LEFT (at first)", "each counts once", x -> {
            line(x, 4);
            due(plan(x, "0:1;2:3,0"), 3);
            due(x.stops(0) + x.stops(1) + x.stops(2) + x.stops(3), 3);
            due(x.told(1), 1);
        });
        for (int van : NO_VANS) edge(15, "NONE", "van " + van, x -> still(x, () -> x.stops(van), NONE));
    }

    private static void p16Stop() {
        edge(16, "The ORDER of a STOP", "the first and the last", x -> {
            line(x, 12);
            due(plan(x, "0:5;1:11,0,10"), 4);
            due(x.stop(1, 0), 11);
            due(x.stop(1, 1), 0);
            due(x.stop(1, 2), 10);
            due(x.stop(0, 0), 5);
        });
        for (int van : NO_VANS) edge(16, "NONE", "van " + van, x -> still(x, () -> x.stop(van, 0), NONE));
        for (int k : new int[] {-1, 2, 12, LEAST, MOST}) {
            edge(16, "NONE", "stop " + k + " of two", x -> {
                line(x, 3);
                due(plan(x, "0:0,2;1:1"), 3);
                still(x, () -> x.stop(0, k), NONE);
            });
        }
        edge(16, "NONE", "stop 0 of none", x -> {
            line(x, 1);
            due(x.stop(0, 0), NONE);
        });
    }

    /** Two stops, the first opens when the van has waited for 6 hours. */
    private static void waiting(RoundSlack x) {
        due(x.order(4, 0, 10, 50, 5), 0);
        due(x.order(4, 4, 0, 60, 3), 1);
        due(x.load(0, 0, 20), 0);
        due(x.load(0, 1, 3), 0);
        due(x.load(1, 0, 7), 0);
        due(x.load(1, 1, 9), 0);
        due(x.van(2, 100, 0, 100), 1);
        due(plan(x, "2:0,1"), 2);
    }

    private static void dueDriven(RoundSlack x, int van, int k, int... want) {
        for (int what = 0; what < want.length; what++) due(x.driven(van, k, what), want[what]);
    }

    private static void p17Driven() {
        String what = "Of a STOP, DRIVEN: what 0 when it comes there, 1 WAIT, 2 when it BEGINS, 3 when it leaves, 4 LOAD";
        edge(17, what, "it waits at the first, not at the second", x -> {
            waiting(x);
            dueDriven(x, 2, 0, 4, 6, 10, 15, 10);
            dueDriven(x, 2, 1, 19, 0, 19, 22, 12);
        });
        edge(17, DRIVEN, "it comes just at OPEN", x -> {
            due(x.order(4, 0, 4, 50, 5), 0);
            due(x.put(0, 0, 0), 1);
            dueDriven(x, 0, 0, 4, 0, 4, 9, 0);
        });
        edge(17, DRIVEN, "it comes one hour ahead of OPEN", x -> {
            due(x.order(4, 0, 5, 50, 5), 0);
            due(x.put(0, 0, 0), 1);
            dueDriven(x, 0, 0, 4, 1, 5, 10, 0);
        });
        edge(17, DRIVEN, "it comes one hour behind OPEN", x -> {
            due(x.order(4, 0, 3, 50, 5), 0);
            due(x.put(0, 0, 0), 1);
            dueDriven(x, 0, 0, 4, 0, 4, 9, 0);
        });
        edge(17, DRIVEN, "it leaves at START, the greatest one", x -> {
            due(x.depot(7, 7), 1);
            due(x.order(7, 7, 0, 600, 0), 0);
            due(x.van(1, 100, 600, 999), 1);
            due(x.put(0, 1, 0), 1);
            dueDriven(x, 1, 0, 600, 0, 600, 600, 0);
            dueDriven(x, 1, 1, 600, 0, 600, 600, 0);
        });
        edge(17, DRIVEN, "stops at one place", x -> {
            due(x.order(4, 0, 0, 50, 5), 0);
            due(x.order(4, 0, 0, 50, 6), 1);
            due(plan(x, "0:0,1"), 2);
            dueDriven(x, 0, 1, 9, 0, 9, 15, 0);
            dueDriven(x, 0, 2, 19, 0, 19, 19, 0);
        });
        edge(17, LOADS, "brought alone, fetched alone", x -> {
            line(x, 3);
            due(x.load(0, 0, 50), 0);
            due(x.load(1, 1, 50), 0);
            due(x.load(2, 0, 50), 0);
            due(plan(x, "1:0,1,2"), 3);
            due(x.driven(1, 0, 4), 50);
            due(x.driven(1, 1, 4), 100);
            due(x.driven(1, 2, 4), 50);
            due(x.driven(1, 3, 4), 50);
        });
        edge(17, "STOP: how many there are: THE DEPOT, as it is back (0, 2, 3 then; 1: 0; 4: all UP)", "behind two stops", x -> {
            waiting(x);
            dueDriven(x, 2, 2, 30, 0, 30, 30, 12);
        });
        edge(17, "STOP: how many there are: THE DEPOT, as it is back (0, 2, 3 then; 1: 0; 4: all UP)", "with no stops", x -> {
            due(x.van(3, 100, 17, 600), 1);
            dueDriven(x, 3, 0, 17, 0, 17, 17, 0);
        });
        edge(17, "STOP: how many there are: THE DEPOT, as it is back (0, 2, 3 then; 1: 0; 4: all UP)", "START 999, END 999", x -> {
            due(x.van(0, 0, 999, 999), 1);
            dueDriven(x, 0, 0, 999, 0, 999, 999, 0);
        });
        for (int van : NO_VANS) edge(17, "NONE", "van " + van, x -> still(x, () -> x.driven(van, 0, 0), NONE));
        for (int k : new int[] {-1, 3, LEAST, MOST}) {
            edge(17, "NONE", "stop " + k + " where the depot is 2", x -> {
                waiting(x);
                still(x, () -> x.driven(2, k, 0), NONE);
            });
        }
        edge(17, "NONE", "stop 1 with no stops", x -> due(x.driven(0, 1, 0), NONE));
        for (int none : new int[] {-1, 5, LEAST, MOST}) {
            edge(17, "NONE", "what " + none, x -> {
                waiting(x);
                still(x, () -> x.driven(2, 0, none), NONE);
                still(x, () -> x.driven(2, 2, none), NONE);
            });
        }
    }

    private static void p18Latest() {
        String told = "The latest hour at which a STOP (as above, THE DEPOT, too) can BEGIN, so that the rest of the ROUND is"
                + " as told by CLOSE and END";
        edge(18, told, "by CLOSE of its own", x -> {
            waiting(x);
            due(x.latest(2, 1), 60);
        });
        edge(18, told, "by CLOSE of what is behind: one hour less than its own", x -> {
            due(x.order(4, 0, 10, 52, 5), 0);
            due(x.order(4, 4, 0, 60, 3), 1);
            due(plan(x, "0:0,1"), 2);
            due(x.latest(0, 0), 51);
        });
        edge(18, told, "by CLOSE of what is behind: as much as its own", x -> {
            due(x.order(4, 0, 10, 51, 5), 0);
            due(x.order(4, 4, 0, 60, 3), 1);
            due(plan(x, "0:0,1"), 2);
            due(x.latest(0, 0), 51);
        });
        edge(18, told, "by END", x -> {
            due(x.order(4, 0, 0, 600, 5), 0);
            due(x.van(1, 100, 0, 13), 1);
            due(x.put(0, 1, 0), 1);
            due(x.latest(1, 0), 4);
            due(x.latest(1, 1), 13);
        });
        edge(18, told, "the depot: END", x -> {
            waiting(x);
            due(x.latest(2, 2), 100);
        });
        edge(18, told, "with no stops: END", x -> {
            due(x.van(1, 100, 5, 9), 1);
            due(x.latest(1, 0), 9);
            due(x.latest(0, 0), 600);
        });
        edge(18, told, "it may be ahead of OPEN of what is behind", x -> {
            due(x.order(1, 0, 0, 20, 0), 0);
            due(x.order(2, 0, 500, 600, 0), 1);
            due(plan(x, "0:0,1"), 2);
            due(x.latest(0, 0), 20);
        });
        for (int van : NO_VANS) edge(18, "NONE", "van " + van, x -> still(x, () -> x.latest(van, 0), NONE));
        for (int k : new int[] {-1, 3, LEAST, MOST}) {
            edge(18, "NONE", "stop " + k + " where the depot is 2", x -> {
                waiting(x);
                still(x, () -> x.latest(2, k), NONE);
            });
        }
        edge(18, "NONE", "stop 1 with no stops", x -> due(x.latest(0, 1), NONE));
    }

    private static void p19Slack() {
        String told = "How much later a STOP (as above) could BEGIN than it does, DRIVEN";
        edge(19, told, "a wait is no slack", x -> {
            waiting(x);
            due(x.slack(2, 0), 40);
            due(x.slack(2, 1), 41);
            due(x.slack(2, 2), 70);
        });
        edge(19, told, "none: it is back just at END", x -> {
            due(x.order(4, 0, 0, 600, 5), 0);
            due(x.van(1, 100, 0, 13), 1);
            due(x.put(0, 1, 0), 1);
            due(x.slack(1, 0), 0);
            due(x.slack(1, 1), 0);
        });
        edge(19, told, "none: it begins just at CLOSE", x -> {
            due(x.order(4, 0, 0, 4, 5), 0);
            due(x.put(0, 1, 0), 1);
            due(x.slack(1, 0), 0);
            due(x.slack(1, 1), 587);
        });
        edge(19, told, "one hour", x -> {
            due(x.order(4, 0, 0, 5, 5), 0);
            due(x.put(0, 1, 0), 1);
            due(x.slack(1, 0), 1);
        });
        edge(19, told, "with no stops: the day", x -> {
            due(x.van(1, 100, 5, 9), 1);
            due(x.slack(1, 0), 4);
        });
        for (int van : NO_VANS) edge(19, "NONE", "van " + van, x -> still(x, () -> x.slack(van, 0), NONE));
        for (int k : new int[] {-1, 3, LEAST, MOST}) {
            edge(19, "NONE", "stop " + k + " where the depot is 2", x -> {
                waiting(x);
                still(x, () -> x.slack(2, k), NONE);
            });
        }
        edge(19, "NONE", "stop 1 with no stops", x -> due(x.slack(0, 1), NONE));
    }

    private static void duePiece(RoundSlack x, int van, int i, int j, int... want) {
        for (int what = 0; what < want.length; what++) due(x.piece(van, i, j, what), want[what]);
    }

    private static void p20Piece() {
        String told = "Of the PIECE of STOPS from i to j (i not above j) what 0 DURATION, 1 EARLY, 2 LATE, 3 DRIVE, 4 DOWN,"
                + " 5 UP, 6 TOP";
        edge(20, told, "of one stop", x -> {
            waiting(x);
            duePiece(x, 2, 0, 0, 5, 10, 50, 0, 20, 3, 20);
            duePiece(x, 2, 1, 1, 3, 0, 60, 0, 7, 9, 9);
        });
        edge(20, told, "of both", x -> {
            waiting(x);
            duePiece(x, 2, 0, 1, 12, 10, 50, 4, 27, 12, 27);
        });
        edge(20, told, "of some between", x -> {
            line(x, 4);
            due(plan(x, "1:3,0,2,1"), 4);
            due(x.piece(1, 1, 2, 3), 2);
            due(x.piece(1, 0, 3, 3), 6);
            due(x.piece(1, 0, 1, 0), 3);
        });
        edge(20, "PIECE of a ROUND: STOPS from one to another one", "all twelve", x -> {
            line(x, 12);
            due(plan(x, "0:0,1,2,3,4,5,6,7,8,9,10,11"), 12);
            duePiece(x, 0, 0, 11, 11, 0, 589, 11, 0, 0, 0);
        });
        edge(20, "DRIVE: the WAYS within it", "not those to it and from it", x -> {
            due(x.order(10, 0, 0, 600, 0), 0);
            due(x.order(10, 5, 0, 600, 0), 1);
            due(x.order(40, 40, 0, 600, 0), 2);
            due(plan(x, "0:2,0,1"), 3);
            due(x.piece(0, 1, 2, 3), 5);
            due(x.piece(0, 1, 1, 3), 0);
        });
        edge(20, DURATION, "begun later it waits less", x -> {
            due(x.order(0, 0, 0, 100, 0), 0);
            due(x.order(9, 0, 20, 30, 0), 1);
            due(plan(x, "0:0,1"), 2);
            duePiece(x, 0, 0, 1, 9, 11, 21);
        });
        edge(20, DURATION, "it can't be begun late enough for no wait", x -> {
            due(x.order(0, 0, 0, 10, 0), 0);
            due(x.order(9, 0, 20, 30, 0), 1);
            due(plan(x, "0:0,1"), 2);
            duePiece(x, 0, 0, 1, 10, 10, 10);
        });
        edge(20, DURATION, "it can just be begun late enough for no wait", x -> {
            due(x.order(0, 0, 0, 11, 0), 0);
            due(x.order(9, 0, 20, 30, 0), 1);
            due(plan(x, "0:0,1"), 2);
            duePiece(x, 0, 0, 1, 9, 11, 11);
        });
        edge(20, DURATION, "the first stop's hours count, not when the van comes there", x -> {
            due(x.order(9, 0, 0, 30, 2), 0);
            due(x.order(12, 0, 0, 30, 4), 1);
            due(plan(x, "0:0,1"), 2);
            duePiece(x, 0, 0, 1, 9, 0, 25);
            due(x.driven(0, 0, 2), 9);
        });
        edge(20, DURATION, "what is behind the piece doesn't count", x -> {
            due(x.order(1, 0, 0, 100, 0), 0);
            due(x.order(2, 0, 0, 100, 0), 1);
            due(x.order(3, 0, 0, 40, 0), 2);
            due(plan(x, "0:0,1,2"), 3);
            duePiece(x, 0, 0, 1, 1, 0, 99);
            duePiece(x, 0, 0, 2, 2, 0, 38);
        });
        edge(20, EARLY_LATE, "LATE by CLOSE of the last one", x -> {
            due(x.order(0, 0, 0, 600, 7), 0);
            due(x.order(3, 0, 0, 30, 0), 1);
            due(plan(x, "0:0,1"), 2);
            duePiece(x, 0, 0, 1, 10, 0, 20);
        });
        edge(20, EARLY_LATE, "it may be begun in one hour alone", x -> {
            due(x.order(0, 0, 0, 600, 7), 0);
            due(x.order(3, 0, 30, 30, 0), 1);
            due(plan(x, "0:0,1"), 2);
            duePiece(x, 0, 0, 1, 10, 20, 20);
        });
        edge(20, EARLY_LATE, "a wait between, then on", x -> {
            due(x.order(10, 0, 5, 20, 2), 0);
            due(x.order(20, 0, 100, 110, 3), 1);
            due(x.order(30, 0, 0, 115, 4), 2);
            due(plan(x, "0:0,1,2"), 3);
            duePiece(x, 0, 0, 1, 83, 20, 20);
            duePiece(x, 0, 0, 2, 97, 20, 20);
            duePiece(x, 0, 1, 2, 17, 100, 102);
        });
        for (int van : NO_VANS) edge(20, "NONE (as -1): van, i, j, what", "van " + van, x -> still(x, () -> x.piece(van, 0, 0, 0), NONE));
        edge(20, "NONE (as -1): van, i, j, what", "a van with no stops", x -> still(x, () -> x.piece(0, 0, 0, 0), NONE));
        for (int i : new int[] {-1, 2, LEAST, MOST}) {
            edge(20, "NONE (as -1): van, i, j, what", "from " + i + ", of two", x -> {
                waiting(x);
                still(x, () -> x.piece(2, i, Math.max(i, 1), 0), NONE);
            });
        }
        for (int j : new int[] {-1, 2, LEAST, MOST}) {
            edge(20, "NONE (as -1): van, i, j, what", "to " + j + ", of two", x -> {
                waiting(x);
                still(x, () -> x.piece(2, 0, j, 0), NONE);
            });
        }
        edge(20, "(i not above j)", "i one above j", x -> {
            waiting(x);
            still(x, () -> x.piece(2, 1, 0, 0), NONE);
        });
        for (int what : new int[] {-1, 7, LEAST, MOST}) {
            edge(20, "NONE (as -1): van, i, j, what", "what " + what, x -> {
                waiting(x);
                still(x, () -> x.piece(2, 0, 1, what), NONE);
            });
        }
    }

    private static void loaded(RoundSlack x, int... downUp) {
        line(x, downUp.length / 2);
        for (int i = 0; i < downUp.length; i++) due(x.load(i / 2, i % 2, downUp[i]), 0);
    }

    private static void p20Loads() {
        edge(20, "DOWN, UP: all of these, added up", "none", x -> {
            line(x, 2);
            due(plan(x, "0:0,1"), 2);
            duePiece(x, 0, 0, 1, 1, 0, 599, 1, 0, 0, 0);
        });
        edge(20, "DOWN, UP: all of these, added up", "of the piece alone", x -> {
            loaded(x, 1, 2, 4, 8, 16, 32);
            due(plan(x, "0:0,1,2"), 3);
            due(x.piece(0, 0, 1, 4), 5);
            due(x.piece(0, 0, 1, 5), 10);
            due(x.piece(0, 1, 2, 4), 20);
            due(x.piece(0, 1, 2, 5), 40);
        });
        edge(20, TOP, "as it begins", x -> {
            loaded(x, 10, 5, 20, 5);
            due(plan(x, "0:0,1"), 2);
            due(x.piece(0, 0, 1, 6), 30);
        });
        edge(20, TOP, "at the end", x -> {
            loaded(x, 5, 10, 5, 20);
            due(plan(x, "0:0,1"), 2);
            due(x.piece(0, 0, 1, 6), 30);
        });
        edge(20, TOP, "between", x -> {
            loaded(x, 0, 20, 20, 0, 30, 1);
            due(plan(x, "0:0,1,2"), 3);
            due(x.piece(0, 0, 2, 6), 70);
            due(x.piece(0, 0, 1, 6), 40);
            due(x.piece(0, 1, 2, 6), 50);
        });
        edge(20, TOP, "at one stop DOWN is less ahead of UP", x -> {
            loaded(x, 30, 30);
            due(plan(x, "0:0"), 1);
            due(x.piece(0, 0, 0, 6), 30);
        });
        edge(20, TOP, "what the van has for others doesn't belong to it", x -> {
            loaded(x, 0, 40, 3, 4, 50, 0);
            due(plan(x, "0:0,1,2"), 3);
            due(x.piece(0, 1, 1, 6), 4);
            due(x.driven(0, 1, 4), 94);
        });
    }

    private static void dueWhole(RoundSlack x, int van, int... want) {
        for (int what = 0; what < want.length; what++) due(x.whole(van, what), want[what]);
    }

    private static void p21Whole() {
        edge(21, "Likewise of the whole ROUND (also with no STOPS)", "no stops", x ->
                dueWhole(x, 0, 0, 0, 600, 0, 0, 0, 0));
        edge(21, "Likewise of the whole ROUND (also with no STOPS)", "no stops, a day of one hour", x -> {
            due(x.van(3, 0, 999, 999), 1);
            dueWhole(x, 3, 0, 999, 999, 0, 0, 0, 0);
        });
        edge(21, WHOLE, "two stops", x -> {
            waiting(x);
            // Left at 6 it needn't wait at 4, 0; the latest is by END at 100.
            dueWhole(x, 2, 24, 6, 46, 16, 27, 12, 27);
        });
        edge(21, WHOLE, "left at START, for there is no wait", x -> {
            due(x.order(5, 0, 0, 600, 1), 0);
            due(x.van(1, 100, 30, 100), 1);
            due(x.put(0, 1, 0), 1);
            dueWhole(x, 1, 11, 30, 89, 10, 0, 0, 0);
        });
        edge(21, WHOLE, "back just at END", x -> {
            due(x.order(5, 0, 0, 600, 1), 0);
            due(x.van(1, 100, 30, 41), 1);
            due(x.put(0, 1, 0), 1);
            dueWhole(x, 1, 11, 30, 30, 10, 0, 0, 0);
        });
        edge(21, WHOLE, "it can be left in one hour alone, by OPEN and by END", x -> {
            due(x.order(5, 0, 90, 600, 1), 0);
            due(x.van(1, 100, 30, 96), 1);
            due(x.put(0, 1, 0), 1);
            dueWhole(x, 1, 11, 85, 85, 10, 0, 0, 0);
        });
        edge(21, WHOLE, "CLOSE bounds how late it can be left: it waits all the same", x -> {
            due(x.order(1, 0, 0, 5, 0), 0);
            due(x.order(2, 0, 20, 30, 0), 1);
            due(x.put(0, 0, 0), 1);
            due(x.put(1, 0, 1), 1);
            dueWhole(x, 0, 18, 4, 4, 4, 0, 0, 0);
        });
        for (int van : NO_VANS) edge(21, "NONE", "van " + van, x -> still(x, () -> x.whole(van, 0), NONE));
        for (int what : new int[] {-1, 7, LEAST, MOST}) {
            edge(21, "NONE", "what " + what, x -> still(x, () -> x.whole(0, what), NONE));
        }
    }

    private static void p22Cost() {
        edge(22, COST_OF_VAN, "no stops: 0, also with FIXED", x -> {
            due(x.price(2, 999), 0);
            due(x.price(1, 9), 0);
            for (int van = 0; van < 4; van++) due(x.cost(van), 0);
            due(x.cost(-1), 0);
        });
        edge(22, COST_OF_VAN, "a stop that costs no driving costs FIXED", x -> {
            atTheDepot(x, 1);
            due(x.price(2, 7), 0);
            due(x.put(0, 2, 0), 1);
            due(x.cost(2), 7);
            due(x.cost(0), 0);
        });
        edge(22, COST_OF_VAN, "all three prices", x -> {
            waiting(x);
            due(x.price(0, 9), 1);
            due(x.price(1, 8), 0);
            due(x.price(2, 700), 0);
            due(x.cost(2), 700 + 9 * 16 + 8 * 24);
        });
        edge(22, COST_OF_VAN, "all prices 0", x -> {
            waiting(x);
            due(x.price(0, 0), 1);
            due(x.cost(2), 0);
            due(x.cost(-1), 0);
        });
        edge(22, COST_OF_ALL, "all are left", x -> {
            line(x, 12);
            due(x.cost(-1), 6000);
            due(x.load(11, 2, 0), 500);
            due(x.load(0, 2, 9999), 500);
            due(x.cost(-1), 14999);
        });
        edge(22, COST_OF_ALL, "none is left", x -> {
            line(x, 2);
            due(plan(x, "0:0;1:1"), 2);
            due(x.cost(-1), 6);
        });
        edge(22, COST_OF_ALL, "one is, one isn't", x -> {
            line(x, 2);
            due(x.load(0, 2, 3), 500);
            due(x.put(1, 0, 0), 1);
            due(x.cost(-1), 7);
            due(x.cost(0), 4);
        });
        edge(22, "COST of a VAN (-1: of all)", "none at all", x -> due(x.cost(-1), 0));
        for (int van : new int[] {-2, 4, LEAST, MOST}) {
            edge(22, "NONE: van", "van " + van, x -> still(x, () -> x.cost(van), NONE));
        }
    }

    private static void p23Left() {
        edge(23, "ORDERS (bits) that are LEFT", "no orders", x -> due(x.left(), 0));
        edge(23, "ORDERS (bits) that are LEFT", "all twelve", x -> {
            line(x, 12);
            due(x.left(), 4095);
        });
        edge(23, "ORDERS (bits) that are LEFT", "none of twelve", x -> {
            line(x, 12);
            due(x.fill(1), 12);
            due(x.left(), 0);
        });
        edge(23, "ORDERS (bits) that are LEFT", "the first and the last", x -> {
            line(x, 12);
            due(plan(x, "0:1,2,3,4,5,6,7,8,9,10"), 10);
            due(x.left(), 2049);
        });
        edge(23, "ORDERS (bits) that are LEFT", "of all vans", x -> {
            line(x, 5);
            due(plan(x, "0:0;1:1;2:2;3:3"), 4);
            due(x.left(), 16);
        });
    }
}
