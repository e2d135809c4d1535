/** Promises 33 to 41: regrets, ruins, steps taken back. */
final class RegretsEdges extends Edges {
    private static final String PRICE = "PRICE of an ORDER that is LEFT in a VAN: the least by which COST of the VAN becomes"
            + " more, were it one more STOP, at whichever place the ROUND is GOOD then; of several the first place";
    private static final String NEVER = "None, if there is no such place: NEVER";
    private static final String REGRET = "REGRET by k (1 .. 4): of its PRICES in VANS, lesser ones first (a NEVER counts"
            + " 100000): how much the second, .., k-th is above the least, added up";
    private static final String FILLED = "FILLED by k: as long as an ORDER that is LEFT has a PRICE: of these that with the"
            + " greatest REGRET, of several that with the least PRICE, of several the least, comes to the VAN of its least"
            + " PRICE (of several the first) at that place";
    private static final String RUIN = "RUIN around an ORDER by n: of ORDERS in ROUNDS the n with the least WAYS to it (of"
            + " like ones the lesser numbers; itself, too, if it is in one; all, if there are fewer) are taken out";
    private static final String AGAIN = "AGAIN around an ORDER by n and k: RUIN, FILLED by k, a DESCENT of 40 at most; is"
            + " COST of all not less then, all is as it was";
    private static final String SIXTEEN = "the latest 16 can be taken back, the latest first: ROUNDS are then as they were"
            + " ahead of it";
    private static final int[] NO_K = {0, 5, -1, LEAST, MOST};

    @Override
    void all() {
        p33Priced();
        p34Placed();
        p35Regret();
        p36First();
        p37Fill();
        p38Ruin();
        p39Again();
        p40Back();
        p41Told();
    }

    /** 2 would be on the way from 0 to 1, but 1 may close too early for that. */
    private static void onTheWay(RoundSlack x, int close) {
        due(x.order(10, 0, 0, 600, 0), 0);
        due(x.order(0, 10, 0, close, 0), 1);
        due(x.order(10, 5, 0, 600, 1), 2);
        due(plan(x, "1:0,1"), 2);
    }

    /** No van but the one goes anywhere. */
    private static void alone(RoundSlack x, int van) {
        for (int other = 0; other < 4; other++) {
            if (other != van) due(x.van(other, 0, 0, 0), 1);
        }
    }

    private static void p33Priced() {
        String told = "PRICE of an ORDER in a VAN; -5: NEVER";
        edge(33, told, "on the way: 0 isn't NEVER", x -> {
            line(x, 2);
            due(x.put(1, 0, 0), 1);
            still(x, () -> x.priced(0, 0), 0);
        });
        edge(33, told, "into a van with no stops: FIXED, too", x -> {
            line(x, 2);
            due(x.price(2, 999), 0);
            due(x.priced(1, 3), 1003);
        });
        edge(33, PRICE, "the cheapest place, just in time", x -> {
            onTheWay(x, 31);
            due(x.priced(2, 1), 0);
            due(x.placed(2, 1), 1);
        });
        edge(33, PRICE, "the cheapest place is one hour too late: a dearer one", x -> {
            onTheWay(x, 30);
            due(x.priced(2, 1), 20);
            due(x.placed(2, 1), 2);
        });
        edge(33, PRICE, "PENALTY doesn't count", x -> {
            line(x, 1);
            due(x.load(0, 2, 9999), 500);
            due(x.priced(0, 0), 2);
        });
        edge(33, PRICE, "the greatest price there can be is below a NEVER", x -> {
            due(x.order(40, 40, 600, 600, 60), 0);
            due(x.van(0, 100, 0, 999), 1);
            due(x.price(0, 9) + x.price(1, 9) + x.price(2, 999), 1);
            due(x.priced(0, 0), 999 + 9 * 160 + 9 * 220);
        });
        edge(33, NEVER, "it closes too early", x -> {
            due(x.order(5, 0, 0, 4, 0), 0);
            for (int van = 0; van < 4; van++) due(x.priced(0, van), LACK);
        });
        edge(33, NEVER, "it would be back too late, in one van", x -> {
            line(x, 3);
            due(x.van(2, 100, 0, 5), 1);
            due(x.priced(2, 2), LACK);
            due(x.priced(1, 2), 4);
            due(x.priced(2, 1), 6);
        });
        edge(33, NEVER, "it would be too full", x -> {
            line(x, 2);
            due(x.load(0, 0, 50), 0);
            due(x.load(1, 0, 50), 0);
            due(x.van(2, 99, 0, 600), 1);
            due(x.put(0, 2, 0), 1);
            still(x, () -> x.priced(1, 2), LACK);
        });
        edge(33, NEVER, "what is there leaves no hour for it, at no place", x -> {
            due(x.order(5, 0, 0, 5, 0), 0);
            due(x.order(0, 5, 0, 14, 0), 1);
            due(x.put(0, 0, 0), 1);
            due(x.priced(1, 0), LACK);
            due(x.priced(1, 1), 10);
        });
        for (int order : new int[] {-1, 1, 12, LEAST, MOST}) {
            edge(33, "NONE: order, van", "order " + order + " of one", x -> {
                line(x, 1);
                still(x, () -> x.priced(order, 0), NONE);
            });
        }
        for (int van : NO_VANS) {
            edge(33, "NONE: order, van", "van " + van, x -> {
                line(x, 1);
                still(x, () -> x.priced(0, van), NONE);
            });
        }
        edge(33, "STATE: it isn't LEFT", "its own van, another van", x -> {
            line(x, 1);
            due(x.put(0, 1, 0), 1);
            still(x, () -> x.priced(0, 1), STATE);
            still(x, () -> x.priced(0, 0), STATE);
        });
        edge(33, FIRST_WORD, "NONE ahead of STATE", x -> {
            line(x, 1);
            due(x.put(0, 1, 0), 1);
            due(x.priced(0, 4), NONE);
        });
        edge(33, FIRST_WORD, "STATE ahead of -5", x -> {
            line(x, 1);
            due(x.van(2, 0, 0, 0), 1);
            due(x.put(0, 1, 0), 1);
            due(x.priced(0, 2), STATE);
        });
    }

    private static void p34Placed() {
        edge(34, "The place of that; -5", "ahead of all, behind all, between", x -> {
            places(x, 10, 0, 10, 10, 5, 0, 0, 5, 10, 5);
            due(plan(x, "1:0,1"), 2);
            due(x.placed(2, 1), 0);
            due(x.placed(3, 1), 2);
            due(x.placed(4, 1), 1);
        });
        edge(34, "of several the first place", "all places cost as much", x -> {
            atTheDepot(x, 4);
            due(plan(x, "2:0,1,2"), 3);
            still(x, () -> x.placed(3, 2), 0);
        });
        edge(34, "of several the first place", "of these where it is GOOD", x -> {
            atTheDepot(x, 1);
            due(x.order(0, 0, 0, 0, 0), 1);
            due(x.order(0, 0, 1, 600, 0), 2);
            due(plan(x, "2:1,0"), 2);
            due(x.placed(2, 2), 1);
        });
        edge(34, "The place of that; -5", "a van with no stops", x -> {
            line(x, 1);
            due(x.placed(0, 3), 0);
        });
        edge(34, "The place of that; -5", "NEVER", x -> {
            line(x, 1);
            due(x.van(3, 0, 0, 1), 1);
            still(x, () -> x.placed(0, 3), LACK);
        });
        edge(34, "The place of that; -5", "put there, the VAN costs its PRICE more", x -> {
            onTheWay(x, 30);
            int cost = x.cost(1);
            int price = x.priced(2, 1);
            due(x.put(2, 1, x.placed(2, 1)), 1);
            due(x.cost(1) - cost, price);
        });
        for (int order : new int[] {-1, 1, 12, LEAST, MOST}) {
            edge(34, "NONE, STATE likewise", "order " + order + " of one", x -> {
                line(x, 1);
                still(x, () -> x.placed(order, 0), NONE);
            });
        }
        for (int van : NO_VANS) {
            edge(34, "NONE, STATE likewise", "van " + van, x -> {
                line(x, 1);
                still(x, () -> x.placed(0, van), NONE);
            });
        }
        edge(34, "NONE, STATE likewise", "it isn't left", x -> {
            line(x, 1);
            due(x.put(0, 1, 0), 1);
            still(x, () -> x.placed(0, 1), STATE);
            still(x, () -> x.placed(0, 0), STATE);
        });
        edge(34, FIRST_WORD, "NONE ahead of STATE", x -> {
            line(x, 1);
            due(x.put(0, 1, 0), 1);
            due(x.placed(0, 4), NONE);
        });
    }

    private static void p35Regret() {
        edge(35, "REGRET by k", "k is 1: nothing", x -> {
            line(x, 2);
            due(x.put(1, 3, 0), 1);
            still(x, () -> x.regret(0, 1), 0);
        });
        edge(35, REGRET, "k is 2, 3, 4", x -> {
            line(x, 4);
            due(x.put(1, 2, 0), 1);
            due(x.put(0, 1, 0), 1);
            // Prices of 3, which is 4 from the depot: 4 in van 2, 6 in van 1, 8 in the others.
            due(x.regret(3, 2), 2);
            due(x.regret(3, 3), 6);
            due(x.regret(3, 4), 10);
        });
        edge(35, REGRET, "all prices alike", x -> {
            line(x, 1);
            due(x.regret(0, 4), 0);
        });
        edge(35, REGRET, "one NEVER: it counts by 4, not by 3", x -> {
            line(x, 1);
            due(x.van(0, 100, 0, 1), 1);
            due(x.regret(0, 3), 0);
            due(x.regret(0, 4), 99998);
        });
        edge(35, REGRET, "all but one are NEVER", x -> {
            line(x, 1);
            alone(x, 2);
            due(x.regret(0, 1), 0);
            due(x.regret(0, 2), 99998);
            due(x.regret(0, 4), 3 * 99998);
        });
        edge(35, REGRET, "all are NEVER: 0", x -> {
            due(x.order(5, 0, 0, 4, 0), 0);
            due(x.regret(0, 2), 0);
            due(x.regret(0, 4), 0);
        });
        for (int order : new int[] {-1, 1, 12, LEAST, MOST}) {
            edge(35, "NONE: order", "order " + order + " of one", x -> {
                line(x, 1);
                still(x, () -> x.regret(order, 1), NONE);
            });
        }
        for (int k : NO_K) {
            edge(35, "BAD: k", "k is " + k, x -> {
                line(x, 1);
                still(x, () -> x.regret(0, k), BAD);
            });
        }
        edge(35, "STATE: it isn't LEFT", "it is in a round", x -> {
            line(x, 1);
            due(x.put(0, 0, 0), 1);
            still(x, () -> x.regret(0, 2), STATE);
        });
        edge(35, FIRST_WORD, "NONE ahead of BAD, BAD ahead of STATE", x -> {
            line(x, 1);
            due(x.put(0, 0, 0), 1);
            due(x.regret(1, 0), NONE);
            due(x.regret(0, 0), BAD);
            due(x.regret(0, 5), BAD);
        });
    }

    private static void p36First() {
        String told = "The ORDER that would come first, FILLED by k; -5: none";
        edge(36, told, "no orders", x -> {
            for (int k = 1; k <= 4; k++) due(x.first(k), LACK);
        });
        edge(36, told, "none is left", x -> {
            line(x, 2);
            due(plan(x, "0:0,1"), 2);
            still(x, () -> x.first(1), LACK);
        });
        edge(36, told, "none that is left has a PRICE", x -> {
            due(x.order(5, 0, 0, 4, 0), 0);
            due(x.order(0, 5, 0, 4, 0), 1);
            still(x, () -> x.first(2), LACK);
        });
        edge(36, "of these that with the greatest REGRET", "the second of two, and by 1 the first", x -> {
            line(x, 3);
            due(x.put(2, 0, 0), 1);
            still(x, () -> x.first(2), 1);
            due(x.first(1), 0);
        });
        edge(36, "of these that with the greatest REGRET", "k tells how many vans count", x -> {
            line(x, 2);
            due(x.van(0, 100, 0, 3), 1);
            due(x.regret(1, 3), 0);
            due(x.first(3), 0);
            due(x.regret(1, 4), 99996);
            due(x.first(4), 1);
        });
        edge(36, "of several that with the least PRICE", "of 2 and 3 with a REGRET of 4", x -> {
            line(x, 4);
            due(x.put(1, 0, 0), 1);
            due(x.regret(0, 2), 2);
            due(x.regret(2, 2), 4);
            due(x.regret(3, 2), 4);
            due(x.first(2), 2);
        });
        edge(36, "of several that with the least PRICE", "not the least number", x -> {
            places(x, 3, 0, 2, 0, 1, 0);
            due(x.first(4), 2);
        });
        edge(36, "of several the least", "all is alike", x -> {
            places(x, 3, 0, 2, 0, 2, 0);
            due(x.first(1), 1);
            due(x.first(4), 1);
        });
        edge(36, "of several the least", "the last order comes first, if all others are in rounds", x -> {
            line(x, 12);
            due(plan(x, "0:0,1,2,3,4,5,6,7,8,9,10"), 11);
            due(x.first(2), 11);
        });
        edge(36, FILLED, "one with no PRICE comes never, whatever the others regret", x -> {
            due(x.order(5, 0, 0, 4, 0), 0);
            due(x.order(6, 0, 0, 600, 0), 1);
            due(x.first(4), 1);
        });
        for (int k : NO_K) {
            edge(36, "BAD", "k is " + k, x -> {
                line(x, 1);
                still(x, () -> x.first(k), BAD);
            });
        }
        edge(36, FIRST_WORD, "BAD, not -5, with no orders", x -> due(x.first(5), BAD));
    }

    private static void p37Fill() {
        edge(37, "FILLED by k: how many came", "no orders", x -> still(x, () -> x.fill(1), 0));
        edge(37, "FILLED by k: how many came", "none is left", x -> {
            line(x, 2);
            due(plan(x, "3:0,1"), 2);
            still(x, () -> x.fill(4), 0);
        });
        edge(37, "FILLED by k: how many came", "all twelve, each k", x -> {
            line(x, 12);
            for (int k = 1; k <= 4; k++) {
                due(x.fill(k), 12);
                due(x.left(), 0);
                due(x.ruin(0, 12), 12);
            }
        });
        edge(37, FILLED, "those with no PRICE stay left", x -> {
            due(x.order(5, 0, 0, 4, 0), 0);
            due(x.order(6, 0, 0, 600, 0), 1);
            due(x.order(7, 0, 0, 6, 0), 2);
            due(x.fill(2), 1);
            due(x.left(), 5);
            dueRounds(x, "0:1");
        });
        edge(37, FILLED, "until nothing has room", x -> {
            line(x, 3);
            for (int i = 0; i < 3; i++) due(x.load(i, 0, 50), 0);
            alone(x, 1);
            due(x.fill(1), 2);
            dueRounds(x, "1:1,0");
            due(x.left(), 4);
            still(x, () -> x.fill(1), 0);
        });
        edge(37, "comes to the VAN of its least PRICE (of several the first) at that place", "vans alike: van 0", x -> {
            line(x, 1);
            due(x.fill(4), 1);
            dueRounds(x, "0:0");
        });
        edge(37, "comes to the VAN of its least PRICE (of several the first) at that place", "van 3 is cheaper", x -> {
            line(x, 3);
            due(x.put(2, 3, 0), 1);
            due(x.fill(2), 2);
            dueRounds(x, "3:0,1,2");
        });
        edge(37, "comes to the VAN of its least PRICE (of several the first) at that place", "van 1 alone", x -> {
            line(x, 2);
            alone(x, 1);
            due(x.fill(3), 2);
            due(x.stops(1), 2);
        });
        edge(37, "comes to the VAN of its least PRICE (of several the first) at that place", "behind all, between", x -> {
            places(x, 10, 0, 10, 10, 0, 5, 10, 5);
            due(plan(x, "1:0,1"), 2);
            due(x.placed(2, 1), 2);
            due(x.placed(3, 1), 1);
            due(x.fill(1), 2);
            dueRounds(x, "1:0,3,1,2");
        });
        edge(37, "FILLED by k: how many came", "the first is as told by first()", x -> {
            places(x, 9, 1, 2, 8, 5, 5, 1, 1);
            due(x.put(2, 1, 0), 1);
            int first = x.first(2);
            int van = x.priced(first, 0) < x.priced(first, 1) ? 0 : 1;
            due(van, 1);
            due(x.fill(2), 3);
            due(x.of(first, 8), van);
        });
        for (int k : NO_K) {
            edge(37, "BAD", "k is " + k, x -> {
                line(x, 1);
                still(x, () -> x.fill(k), BAD);
            });
        }
        edge(37, STEP, "by fill: one, however many came", x -> {
            line(x, 3);
            due(x.put(1, 2, 0), 1);
            due(x.fill(2), 2);
            due(x.told(3), 2);
            due(x.back(), 1);
            dueRounds(x, "2:1");
        });
        edge(37, STEP, "not by a fill that brings none", x -> {
            due(x.order(5, 0, 0, 4, 0), 0);
            due(x.fill(2), 0);
            due(x.told(3), 0);
        });
    }

    private static void p38Ruin() {
        String told = "RUIN around an ORDER (LEFT or not) by n (1 .. 12): how many were taken out";
        edge(38, told, "one: itself", x -> {
            line(x, 3);
            due(plan(x, "2:0,1,2"), 3);
            due(x.ruin(1, 1), 1);
            dueRounds(x, "2:0,2");
        });
        edge(38, told, "one that is left", x -> {
            line(x, 3);
            due(plan(x, "2:1,2"), 2);
            due(x.ruin(0, 1), 1);
            dueRounds(x, "2:2");
        });
        edge(38, told, "twelve of twelve", x -> {
            line(x, 12);
            due(x.fill(1), 12);
            due(x.ruin(5, 12), 12);
            due(x.left(), 4095);
        });
        edge(38, told, "eleven of twelve: the farthest stays", x -> {
            line(x, 12);
            due(x.fill(1), 12);
            due(x.ruin(0, 11), 11);
            due(x.left(), 2047);
        });
        edge(38, "all, if there are fewer", "two of twelve asked for", x -> {
            line(x, 3);
            due(plan(x, "0:0;3:2"), 2);
            due(x.ruin(1, 12), 2);
            dueRounds(x, "");
        });
        edge(38, "all, if there are fewer", "none", x -> {
            line(x, 3);
            still(x, () -> x.ruin(1, 12), 0);
            still(x, () -> x.ruin(1, 1), 0);
        });
        edge(38, "the n with the least WAYS to it", "over vans, not by numbers", x -> {
            line(x, 5);
            due(plan(x, "0:0,3;1:1;2:4"), 4);
            due(x.ruin(4, 2), 2);
            dueRounds(x, "0:0;1:1");
        });
        edge(38, "(of like ones the lesser numbers; itself, too, if it is in one; all, if there are fewer)", "of like ones", x -> {
            line(x, 5);
            due(plan(x, "0:4,3;1:1,0"), 4);
            due(x.ruin(2, 1), 1);
            dueRounds(x, "0:4,3;1:0");
            due(x.ruin(2, 2), 2);
            dueRounds(x, "0:4");
        });
        edge(38, "(of like ones the lesser numbers; itself, too, if it is in one; all, if there are fewer)", "itself counts", x -> {
            line(x, 3);
            due(plan(x, "0:0,1,2"), 3);
            due(x.ruin(2, 2), 2);
            dueRounds(x, "0:0");
        });
        edge(38, "(of like ones the lesser numbers; itself, too, if it is in one; all, if there are fewer)",
                "itself and a lesser one at the same place", x -> {
            places(x, 5, 0, 7, 0, 7, 0);
            due(plan(x, "0:0,1,2"), 3);
            due(x.ruin(2, 1), 1);
            dueRounds(x, "0:0,2");
        });
        edge(38, RUIN, "where the others stand stays", x -> {
            line(x, 5);
            due(plan(x, "0:3,1,4,0,2"), 5);
            due(x.ruin(1, 2), 2);
            dueRounds(x, "0:3,4,2");
        });
        for (int order : new int[] {-1, 1, 12, LEAST, MOST}) {
            edge(38, "NONE", "order " + order + " of one", x -> {
                line(x, 1);
                due(x.put(0, 0, 0), 1);
                still(x, () -> x.ruin(order, 1), NONE);
            });
        }
        for (int n : new int[] {0, 13, -1, LEAST, MOST}) {
            edge(38, "BAD", "n is " + n, x -> {
                line(x, 1);
                due(x.put(0, 0, 0), 1);
                still(x, () -> x.ruin(0, n), BAD);
            });
        }
        edge(38, FIRST_WORD, "NONE ahead of BAD", x -> due(x.ruin(0, 0), NONE));
        edge(38, STEP, "by ruin: one, however many are taken out", x -> {
            line(x, 3);
            due(plan(x, "0:2,0;1:1"), 3);
            due(x.ruin(0, 12), 3);
            due(x.told(3), 1);
            due(x.back(), 0);
            dueRounds(x, "0:2,0;1:1");
        });
        edge(38, STEP, "by ruin: one taken out, behind other steps", x -> {
            line(x, 3);
            due(x.put(1, 2, 0), 1);
            due(x.put(0, 2, 0), 1);
            due(x.ruin(2, 1), 1);
            dueRounds(x, "2:0");
            due(x.told(3), 3);
            due(x.back(), 2);
            dueRounds(x, "2:0,1");
        });
        edge(38, STEP, "not by a ruin that takes none out", x -> {
            line(x, 3);
            due(x.ruin(0, 12), 0);
            due(x.told(3), 0);
        });
    }

    private static void p39Again() {
        String told = "AGAIN: by how much COST of all is less then (0: all is as it was)";
        edge(39, told, "by 6: all are taken out", x -> {
            line(x, 4);
            due(plan(x, "0:3,0;1:1,2"), 4);
            due(x.cost(-1), 14);
            due(x.again(0, 12, 2), 6);
            due(x.cost(-1), 8);
        });
        edge(39, told, "by 1", x -> {
            atTheDepot(x, 2);
            due(x.price(2, 1), 0);
            due(plan(x, "0:0;1:1"), 2);
            due(x.again(0, 1, 1), 1);
            due(x.cost(-1), 1);
        });
        edge(39, AGAIN, "the DESCENT is part of it", x -> {
            line(x, 4);
            due(plan(x, "0:3,0;1:1,2"), 4);
            due(x.again(0, 1, 1), 6);
            due(x.stops(0) * x.stops(1), 0);
            RoundSlack y = new RoundSlack();
            line(y, 4);
            due(plan(y, "0:3,0;1:1,2"), 4);
            due(y.ruin(0, 1), 1);
            due(y.fill(1), 1);
            due(y.cost(-1), 14);
        });
        edge(39, AGAIN, "RUIN is part of it: no MOVE is better, none is left", x -> {
            places(x, 1, 3, 5, 0, 3, 0, 3, 2, 3, 3);
            due(plan(x, "0:2,4,0,3,1"), 5);
            due(x.fill(1), 0);
            due(x.descent(40), 0);
            due(x.cost(-1), 20);
            due(x.again(0, 1, 2), 4);
            dueRounds(x, "0:0,4,3,2,1");
            due(x.cost(-1), 16);
        });
        edge(39, AGAIN, "the FILLED, too: one that is left comes", x -> {
            line(x, 2);
            due(x.put(1, 2, 0), 1);
            due(x.again(1, 1, 1), 500);
            due(x.cost(-1), 4);
            due(x.told(3), 2);
            due(x.back(), 1);
            dueRounds(x, "2:1");
        });
        edge(39, AGAIN, "not less, though otherwise: all is as it was", x -> {
            line(x, 1);
            due(x.put(0, 1, 0), 1);
            still(x, () -> x.again(0, 1, 1), 0);
            dueRounds(x, "1:0");
        });
        edge(39, AGAIN, "one comes that costs more than its PENALTY: all is as it was", x -> {
            line(x, 2);
            due(x.load(1, 2, 1), 500);
            due(x.put(0, 1, 0), 1);
            still(x, () -> x.again(0, 1, 1), 0);
            dueRounds(x, "1:0");
        });
        edge(39, AGAIN, "one comes that costs just its PENALTY: all is as it was", x -> {
            line(x, 2);
            due(x.load(1, 2, 2), 500);
            due(x.put(0, 1, 0), 1);
            still(x, () -> x.again(0, 1, 1), 0);
            dueRounds(x, "1:0");
        });
        edge(39, AGAIN, "one comes that costs 1 less than its PENALTY", x -> {
            line(x, 2);
            due(x.load(1, 2, 3), 500);
            due(x.put(0, 1, 0), 1);
            due(x.again(0, 1, 1), 1);
            due(x.left(), 0);
        });
        edge(39, AGAIN, "none is in a round: all that have a PRICE come", x -> {
            line(x, 2);
            due(x.order(5, 0, 0, 4, 0), 2);
            due(x.again(2, 12, 4), 996);
            dueRounds(x, "0:1,0");
        });
        edge(39, AGAIN, "nothing can come: all is as it was", x -> {
            due(x.order(5, 0, 0, 4, 0), 0);
            still(x, () -> x.again(0, 12, 4), 0);
        });
        edge(39, AGAIN, "around one that is left", x -> {
            line(x, 4);
            due(x.load(3, 2, 0), 500);
            due(plan(x, "0:2,1;1:0"), 3);
            due(x.cost(-1), 8);
            due(x.again(3, 1, 1), 0);
            due(x.load(3, 2, 500), 0);
            due(x.again(3, 1, 1), 500);
            due(x.cost(-1), 8);
        });
        for (int order : new int[] {-1, 1, 12, LEAST, MOST}) {
            edge(39, "NONE: order", "order " + order + " of one", x -> {
                line(x, 1);
                still(x, () -> x.again(order, 1, 1), NONE);
            });
        }
        for (int n : new int[] {0, 13, -1, LEAST, MOST}) {
            edge(39, "BAD: n, k", "n is " + n, x -> {
                line(x, 1);
                still(x, () -> x.again(0, n, 1), BAD);
            });
        }
        for (int k : NO_K) {
            edge(39, "BAD: n, k", "k is " + k, x -> {
                line(x, 1);
                still(x, () -> x.again(0, 1, k), BAD);
            });
        }
        edge(39, FIRST_WORD, "NONE ahead of BAD", x -> due(x.again(0, 0, 0), NONE));
        edge(39, STEP, "by again: one", x -> {
            line(x, 4);
            due(plan(x, "0:3,0;1:1,2"), 4);
            due(x.again(0, 12, 2), 6);
            due(x.told(3), 1);
            due(x.back(), 0);
            dueRounds(x, "0:3,0;1:1,2");
        });
        edge(39, STEP, "not by an again that leaves all as it was", x -> {
            line(x, 1);
            due(x.put(0, 1, 0), 1);
            due(x.again(0, 1, 1), 0);
            due(x.told(3), 1);
            due(x.back(), 0);
            dueRounds(x, "");
        });
    }

    /** Step i puts or takes order 0, so that the rounds tell how many were done. */
    private static void steps(RoundSlack x, int many) {
        for (int i = 0; i < many; i++) {
            if (i % 2 == 0) due(x.put(0, i / 2 % 4, 0), 1);
            else due(x.take(0), i / 2 % 4);
        }
    }

    private static void p40Back() {
        edge(40, "STATE: none can", "nothing was done", x -> still(x, () -> x.back(), STATE));
        edge(40, "STATE: none can", "all are taken back", x -> {
            line(x, 1);
            steps(x, 2);
            due(x.back(), 1);
            due(x.back(), 0);
            still(x, () -> x.back(), STATE);
        });
        edge(40, "The latest STEP DONE is taken back: how many more can be", "one by one", x -> {
            line(x, 3);
            due(x.put(0, 0, 0), 1);
            due(x.put(1, 1, 0), 1);
            due(x.put(2, 0, 0), 1);
            due(x.back(), 2);
            dueRounds(x, "0:0;1:1");
            due(x.back(), 1);
            dueRounds(x, "0:0");
            due(x.back(), 0);
            dueRounds(x, "");
        });
        edge(40, SIXTEEN, "sixteen", x -> {
            line(x, 1);
            steps(x, 16);
            due(x.told(3), 16);
            for (int i = 15; i >= 0; i--) {
                due(x.back(), i);
                dueRounds(x, i % 2 == 0 ? "" : i / 2 % 4 + ":0");
            }
            due(x.back(), STATE);
        });
        for (int many : new int[] {17, 18, 31, 32, 33, 48, 50}) {
            edge(40, SIXTEEN, "of " + many, x -> {
                line(x, 1);
                steps(x, many);
                due(x.told(3), 16);
                for (int i = 15; i >= 0; i--) {
                    due(x.back(), i);
                    int left = many - 16 + i;
                    dueRounds(x, left % 2 == 0 ? "" : left / 2 % 4 + ":0");
                }
                due(x.back(), STATE);
                due(x.told(3), 0);
            });
        }
        edge(40, SIXTEEN, "some taken back, others done, beyond sixteen", x -> {
            line(x, 1);
            steps(x, 20);
            for (int i = 15; i >= 10; i--) due(x.back(), i);
            for (int i = 11; i <= 16; i++) {
                due(i % 2 == 1 ? x.put(0, 3, 0) : x.take(0), i % 2 == 1 ? 1 : 3);
                due(x.told(3), i);
            }
            due(x.put(0, 2, 0), 1);
            due(x.told(3), 16);
            due(x.back(), 15);
            dueRounds(x, "");
            due(x.back(), 14);
            dueRounds(x, "3:0");
            for (int i = 13; i >= 0; i--) due(x.back(), i);
            dueRounds(x, "2:0");
            due(x.back(), STATE);
        });
        edge(40, SIXTEEN, "prices and rows aren't taken back", x -> {
            line(x, 1);
            due(x.put(0, 0, 0), 1);
            due(x.price(0, 7), 1);
            setRow(x, 0, 5);
            feed(x, "1");
            due(x.spell(), 3);
            due(x.back(), 0);
            due(x.told(6), 7);
            due(x.told(4), 1);
            due(x.told(5), 3);
            dueText(row(x, 0), "5");
        });
        edge(40, "STEPS DONE", "back() isn't one", x -> {
            line(x, 2);
            due(x.put(0, 0, 0), 1);
            due(x.put(1, 0, 0), 1);
            due(x.back(), 1);
            due(x.told(3), 1);
            due(x.back(), 0);
            due(x.back(), STATE);
        });
        edge(40, STEP, "each kind of step is taken back", x -> {
            line(x, 4);
            due(plan(x, "0:3,0"), 2);
            due(x.put(1, 1, 0), 1);
            due(x.put(2, 1, 1), 1);
            due(x.move(3, 1, 0, 1), 1);
            due(x.take(0), 0);
            due(x.fill(2), 1);
            due(x.descent(40) > 0 ? 1 : 0, 1);
            due(x.ruin(1, 2), 2);
            due(x.again(0, 1, 1) > 0 ? 1 : 0, 1);
            due(x.told(3), 8);
            for (int i = 7; i >= 4; i--) due(x.back(), i);
            due(x.back(), 3);
            dueRounds(x, "0:3,0;1:2,1");
            due(x.back(), 2);
            dueRounds(x, "0:3,0;1:1,2");
            due(x.back(), 1);
            dueRounds(x, "0:3,0;1:1");
            due(x.back(), 0);
            dueRounds(x, "0:3,0");
        });
    }

    private static void p41Told() {
        edge(41, "What 0 how many ORDERS, 1 how many are LEFT, 2 VANS with STOPS (bits), 3 STEPS that can be taken back, 4 bytes of"
                + " THE TAPE, 5 of THE PAPER", "none of all", x -> {
            for (int what = 0; what <= 5; what++) due(x.told(what), 0);
        });
        edge(41, "0 how many ORDERS, 1 how many are LEFT", "twelve, and one isn't", x -> {
            line(x, 12);
            due(x.told(0), 12);
            due(x.told(1), 12);
            due(x.put(7, 3, 0), 1);
            due(x.told(0), 12);
            due(x.told(1), 11);
        });
        for (int van = 0; van < 4; van++) {
            int one = van;
            edge(41, "2 VANS with STOPS (bits)", "van " + van, x -> {
                line(x, 1);
                due(x.put(0, one, 0), 1);
                due(x.told(2), 1 << one);
            });
            edge(41, "20 .. 23 CAPACITY of a VAN, 24 .. 27 START, 28 .. 31 END", "van " + van, x -> {
                due(x.van(one, 11, 222, 333), 1);
                for (int other = 0; other < 4; other++) {
                    due(x.told(20 + other), other == one ? 11 : 100);
                    due(x.told(24 + other), other == one ? 222 : 0);
                    due(x.told(28 + other), other == one ? 333 : 600);
                }
            });
        }
        edge(41, "2 VANS with STOPS (bits)", "all", x -> {
            line(x, 4);
            due(plan(x, "0:0;1:1;2:2;3:3"), 4);
            due(x.told(2), 15);
        });
        edge(41, "4 bytes of THE TAPE, 5 of THE PAPER", "160, and 33", x -> {
            line(x, 12);
            due(plan(x, "0:11,10,9;1:8,7,6;2:5,4,3;3:2,1,0"), 12);
            due(x.spell(), 33);
            due(x.told(5), 33);
            for (int i = 1; i <= 160; i++) due(x.feed(';'), i);
            due(x.told(4), 160);
        });
        edge(41, "6 .. 8 PRICES of DRIVE, DURATION, FIXED, 9, 10 x and y of THE DEPOT", "each", x -> {
            due(x.price(0, 2) + x.price(1, 3) + x.price(2, 4), 1);
            due(x.depot(5, 6), 1);
            for (int what = 6; what <= 10; what++) due(x.told(what), what - 4);
        });
        for (int what : new int[] {-1, 11, 12, 19, 32, 33, LEAST, MOST}) {
            edge(41, "NONE", "what " + what, x -> still(x, () -> x.told(what), NONE));
        }
    }
}
