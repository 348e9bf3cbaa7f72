/** Promises 28 to 38: the edges of whole coins, of coins that come and are struck, and of a budget. */
public final class CoinsEdgeTest {
    private static final int NONE = Edge.NONE, BAD = Edge.BAD, NOT_SO = Edge.NOT_SO;
    private static final int NOTHING = Edge.NOTHING, BEYOND = Edge.BEYOND;
    private static final int MIN = Edge.MIN, MAX = Edge.MAX;

    /** What is PAID IN COINS by house 0: each CLASS to house 1 and, if there is one, to house 2. */
    private static String coins(ClearingWaves x) {
        StringBuilder text = new StringBuilder();
        for (int cls = 0; cls < 3; cls++) {
            text.append(cls > 0 ? ", " : "").append(x.coin(0, 1, cls));
            if (x.count(0) > 2) {
                text.append('+').append(x.coin(0, 2, cls));
            }
        }
        return text.toString();
    }

    private static void coin() {
        Edge.test(28, "CLASS by CLASS whole, in the one where it ends OWED times r by DUE, cut, behind it nothing", () -> {
            ClearingWaves x = Edge.told(3, 10, 10, "a>b=5;a>>b=5;a>>c=6;a>>>c=4");
            String[] due = {"0+0, 0+0, 0+0", "1+0, 0+0, 0+0", "2+0, 0+0, 0+0", "3+0, 0+0, 0+0", "4+0, 0+0, 0+0",
                "5+0, 0+0, 0+0", "5+0, 0+0, 0+0", "5+0, 0+1, 0+0", "5+0, 1+1, 0+0", "5+0, 1+2, 0+0", "5+0, 2+2, 0+0",
                "5+0, 2+3, 0+0", "5+0, 3+3, 0+0", "5+0, 3+4, 0+0", "5+0, 4+4, 0+0", "5+0, 4+5, 0+0", "5+0, 5+6, 0+0",
                "5+0, 5+6, 0+1", "5+0, 5+6, 0+2", "5+0, 5+6, 0+3", "5+0, 5+6, 0+4", "5+0, 5+6, 0+4"};
            for (int cash = 0; cash < due.length; cash++) {
                x.cash(0, cash);
                Edge.same("with " + cash, coins(x), due[cash]);
            }
        });
        Edge.test(28, "REST is added up and then cut, once", () -> {
            Edge.same("5 and 5 tenths", coins(Edge.told(3, 5, 5, "a=1;b=1;b>a=1;a>c=3")), "0+1, 0+0, 0+0");
            Edge.same("9 tenths", coins(Edge.told(2, 9, 10, "a=1;a>b=3")), "0, 0, 0");
            Edge.same("10 tenths", coins(Edge.told(2, 10, 0, "a=1;a>b=3")), "1, 0, 0");
            Edge.same("18 tenths", coins(Edge.told(2, 9, 10, "a=2;a>b=3")), "1, 0, 0");
            Edge.same("none of cash", coins(Edge.told(3, 0, 10, "a=9;b=2;b>a=2;a>c=20")), "0+2, 0+0, 0+0");
            Edge.same("none of what it gets", coins(Edge.told(3, 10, 0, "a=9;b=2;b>a=2;a>c=20")), "0+9, 0+0, 0+0");
        });
        Edge.test(28, "a WORTH that is just the DUE in all pays all, whatever COSTS are; one less doesn't", () -> {
            Edge.same("5 for 5", coins(Edge.told(2, 0, 0, "a=5;a>b=3;a>>b=2")), "3, 2, 0");
            Edge.same("4 for 5", coins(Edge.told(2, 0, 0, "a=4;a>b=3;a>>b=2")), "0, 0, 0");
            Edge.same("4 for 5 without costs", coins(Edge.told(2, 10, 10, "a=4;a>b=3;a>>b=2")), "3, 1, 0");
        });
        Edge.test(28, "a coin of each may be cut: by coins less comes than in THE CLEARING", () -> {
            ClearingWaves x = Edge.told(4, 10, 10, "a=5;a>b=3;a>c=4;b>d=2;c>d=2;c>>d=1");
            Edge.due("15 by 7", x.coin(0, 1, 0), 2);
            Edge.due("20 by 7", x.coin(0, 2, 0), 2);
            Edge.due("by coins b holds", x.coinFails() & 2, 0);
            Edge.due("c has 2 for 3", x.coinFails() & 4, 4);
        });
        for (int h = 0; h < 3; h++) {
            int house = h;
            Edge.refused(28, "house " + h + " to itself", NONE, x -> x.coin(house, house, 0));
        }
        Edge.outside(28, "from", 3, NONE, (x, v) -> x.coin(v, 1, 0));
        Edge.outside(28, "to", 3, NONE, (x, v) -> x.coin(0, v, 0));
        Edge.outside(28, "cls", 3, NONE, (x, v) -> x.coin(0, 1, v));
        Edge.asked(28, "coin", x -> x.coin(0, 1, 0));
    }

    /** 222 STEPS, the most that were found. */
    private static ClearingWaves manySteps() {
        ClearingWaves x = Edge.told(5, 5, 10, "a=5;b=1;c=1;d=3;e=4;a>b=18;a>>b=16;a>>>b=20;a>>c=15;a>>>c=17;a>>d=15;"
            + "a>>>d=2;a>e=19;a>>e=13;a>>>e=6;b>a=6;b>>a=17;b>>>a=14;b>c=20;b>>c=17;b>>>c=20;b>d=17;b>>d=15;b>>>d=13;"
            + "b>e=18;b>>e=19;b>>>e=17;c>a=6;c>>a=20;c>>>a=16;c>b=9;c>>b=16;c>>>b=16;c>d=5;c>>d=18;c>>>d=12;c>e=7");
        Edge.tell(x, "c>>e=10;c>>>e=20;d>>a=2;d>>>a=17;d>b=19;d>>b=14;d>>>b=18;d>c=11;d>>c=12;d>>>c=15;d>>e=11;"
            + "d>>>e=18;e>a=10;e>>a=19;e>>>a=17;e>>>b=19;e>c=15;e>>c=17;e>>>c=8;e>d=5;e>>d=15;e>>>d=20");
        return x;
    }

    private static void steps() {
        Edge.test(29, "no STEP where none FAILS: the one that changes nothing isn't counted", () -> {
            Edge.due("no debts", Edge.told(5, 0, 0, "").steps(), 0);
            Edge.due("each has enough", Edge.told(3, 0, 0, "a=5;a>b=5;b>c=5").steps(), 0);
            ClearingWaves x = Edge.told(2, 10, 10, "a=4;a>b=5");
            Edge.due("one", x.steps(), 1);
            x.cash(0, 3);
            Edge.due("one, counted anew", x.steps(), 1);
            x.cash(0, 5);
            Edge.due("none", x.steps(), 0);
        });
        Edge.test(29, "all HOUSES at once, by what was PAID in the STEP before", () -> {
            Edge.due("from the first on", Edge.told(5, 10, 10, "a>b=1;b>c=1;c>d=1;d>e=1").steps(), 4);
            Edge.due("from the last on", Edge.told(5, 10, 10, "e>d=1;d>c=1;c>b=1;b>a=1").steps(), 4);
        });
        Edge.test(29, "until one changes nothing, however many there are", () -> {
            Edge.due("a coin each time", Edge.told(3, 0, 9, "a>b=8;b>a=8;a>>c=1;b>>c=1").steps(), 8);
            ClearingWaves x = manySteps();
            Edge.due("222", x.steps(), 222);
            Edge.due("gone", x.gone(), 9);
            Edge.due("all fail", x.coinFails(), 31);
        });
        Edge.asked(29, "steps", x -> x.steps());
        Edge.test(30, "none, the first, the last; just the DUE in all isn't below it", () -> {
            Edge.due("none", new ClearingWaves().coinFails(), 0);
            Edge.due("5 for 5", Edge.told(2, 0, 0, "a=5;a>b=5").coinFails(), 0);
            Edge.due("4 for 5", Edge.told(2, 10, 10, "a=4;a>b=5").coinFails(), 1);
            Edge.due("the last of five", Edge.told(5, 10, 10, "e>a=1").coinFails(), 16);
            Edge.due("a gets 2 for 2 and 3 for 3", Edge.told(3, 0, 0, "a=2;a>b=2;b=3;b>c=5").coinFails(), 0);
            Edge.due("one less", Edge.told(3, 0, 0, "a=2;a>b=2;b=3;b>c=6").coinFails(), 2);
        });
        Edge.test(30, "behind all STEPS, not by the first", () -> {
            ClearingWaves x = Edge.told(4, 10, 10, "a>b=5;b>c=5;c>d=5");
            Edge.due("one behind the other", x.coinFails(), 7);
            Edge.due("steps", x.steps(), 3);
        });
        Edge.asked(30, "coinFails", x -> x.coinFails());
        Edge.test(31, "nothing where none FAILS or without COSTS; all with COSTS 0 and 0; REST is cut", () -> {
            Edge.due("none fails", Edge.told(2, 0, 0, "a=5;a>b=5").gone(), 0);
            Edge.due("without costs", Edge.told(2, 10, 10, "a=4;a>b=5").gone(), 0);
            Edge.due("all", Edge.told(2, 0, 0, "a=4;a>b=5").gone(), 4);
            Edge.due("7 tenths of 5 are 3", Edge.told(2, 7, 10, "a=5;a>b=9").gone(), 2);
            Edge.due("9 tenths of 10 are 9", Edge.told(2, 9, 10, "a=10;a>b=11").gone(), 1);
            Edge.due("of two", Edge.told(3, 5, 5, "a=5;a>b=9;b=4;b>c=20").gone(), 6);
        });
        Edge.test(31, "coins that are cut when they are paid out aren't gone", () -> {
            ClearingWaves x = Edge.told(3, 10, 10, "a=1;a>b=1;a>c=1");
            Edge.due("nothing is paid", x.coin(0, 1, 0) + x.coin(0, 2, 0), 0);
            Edge.due("gone", x.gone(), 0);
        });
        Edge.asked(31, "gone", x -> x.gone());
    }

    /** House 0 has 200 and owes 240, all there can be. */
    private static ClearingWaves heavy() {
        return Edge.told(5, 0, 0, "a=200;a>b=20;a>c=20;a>d=20;a>e=20;a>>b=20;a>>c=20;a>>d=20;a>>e=20;a>>>b=20;"
            + "a>>>c=20;a>>>d=20;a>>>e=20");
    }

    private static void saved() {
        Edge.test(32, "x is 0 .. 200: 0 is the least, 200 the greatest that is taken", () -> {
            ClearingWaves x = Edge.full();
            int[] due = {3, 3, 3, 1, 1, 1, 0, 0};
            for (int v = 0; v < due.length; v++) {
                Edge.due("to a " + v, x.saved(v, 0), due[v]);
            }
            Edge.due("200", x.saved(200, 0), 0);
            Edge.due("1 to b", x.saved(1, 1), 3);
            Edge.due("2 to b", x.saved(2, 1), 1);
            Edge.due("200 to b", x.saved(200, 1), 1);
            Edge.due("200 to c", x.saved(200, 2), 3);
        });
        Edge.test(32, "CASH is more so, above 200, too", () -> {
            ClearingWaves x = heavy();
            Edge.due("239 for 240", x.saved(39, 0), 1);
            Edge.due("240 for 240", x.saved(40, 0), 0);
            Edge.due("400", x.saved(200, 0), 0);
            Edge.due("the cash is told still", x.count(10), 200);
        });
        Edge.between(32, "x", 0, 200, BAD, (x, v) -> x.saved(v, 0));
        Edge.outside(32, "house", 3, NONE, (x, v) -> x.saved(5, v));
        Edge.refused(32, "no such HOUSE and x too great: NONE first,", NONE, x -> x.saved(201, 3));
        Edge.refused(32, "no such HOUSE and x too little: NONE first,", NONE, x -> x.saved(-1, -1));
        Edge.asked(32, "saved", x -> x.saved(6, 0));
        Edge.test(33, "x is 0 .. 200: 0 is the least, 200 the greatest that is taken; CASH is 0 at least", () -> {
            ClearingWaves x = Edge.told(4, 10, 10, "a=2;b=5;b>a=4;a>c=5;c>d=4;d=200");
            Edge.due("0", x.struck(0, 0), 0);
            Edge.due("1", x.struck(1, 0), 0);
            Edge.due("all: 4 for 5, and c gets 4 for 4", x.struck(2, 0), 1);
            Edge.due("one more than it has", x.struck(3, 0), 1);
            Edge.due("200", x.struck(200, 0), 1);
            Edge.due("all but 4 of b", x.struck(1, 1), 0);
            Edge.due("all but 3 of b: a has 2 and 3", x.struck(2, 1), 2);
            Edge.due("all but 2 of b: a has 2 and 2", x.struck(3, 1), 3);
            Edge.due("200 of 200", x.struck(200, 3), 0);
            Edge.due("of one without cash", x.struck(200, 2), 0);
        });
        Edge.between(33, "x", 0, 200, BAD, (x, v) -> x.struck(v, 0));
        Edge.outside(33, "house", 3, NONE, (x, v) -> x.struck(2, v));
        Edge.refused(33, "no such HOUSE and x too great: NONE first,", NONE, x -> x.struck(201, 3));
        Edge.refused(33, "no such HOUSE and x too little: NONE first,", NONE, x -> x.struck(MIN, -1));
        Edge.asked(33, "struck", x -> x.struck(6, 2));
    }

    private static void saves() {
        Edge.test(34, "by HOW 0 with the fewest that FAIL, by HOW 1 with the most ALL PAID", () -> {
            ClearingWaves x = Edge.told(3, 10, 10, "a>c=1;b>c=20");
            Edge.due("a holds", x.saves(5, 0), 0);
            Edge.due("5 are paid", x.saves(5, 1), 1);
            ClearingWaves y = Edge.told(3, 10, 10, "b>c=1;a>c=20");
            Edge.due("b holds", y.saves(5, 0), 1);
            Edge.due("5 are paid", y.saves(5, 1), 0);
        });
        Edge.test(34, "by HOW 0 of several the most ALL PAID, by HOW 1 of several the fewest that FAIL", () -> {
            Edge.due("both fail, 1 or 2 are paid", Edge.told(3, 10, 10, "b>a=10;a>c=10").saves(1, 0), 1);
            Edge.due("both fail, 2 or 1 are paid", Edge.told(3, 10, 10, "a>b=10;b>c=10").saves(1, 0), 0);
            Edge.due("5 are paid, b holds or not", Edge.told(3, 10, 10, "a>c=20;b>c=5").saves(5, 1), 1);
            Edge.due("5 are paid, a holds or not", Edge.told(3, 10, 10, "a>c=5;b>c=20").saves(5, 1), 0);
        });
        Edge.test(34, "ALL PAID is nothing with the first, and as many FAIL", () -> {
            for (int how = 0; how < 2; how++) {
                Edge.due("nothing or 1", Edge.told(3, 10, 10, "c>a=10").saves(1, how), 2);
                Edge.due("nothing or 1 by 2", Edge.told(3, 5, 10, "c>a=10").saves(1, how), 2);
            }
        });
        Edge.test(34, "of several by both the least", () -> {
            for (int how = 0; how < 2; how++) {
                Edge.due("all alike", Edge.told(5, 10, 10, "").saves(200, how), 0);
                Edge.due("b and c alike", Edge.told(3, 10, 10, "b>a=5;c>a=5").saves(5, how), 1);
                Edge.due("a and c alike", Edge.told(3, 10, 10, "a>b=5;c>b=5").saves(5, how), 0);
                Edge.due("the last alone", Edge.told(5, 10, 10, "e>a=5").saves(5, how), 4);
            }
        });
        Edge.test(34, "x is 0 .. 200: by 0 all are alike; 200 is the greatest that is taken", () -> {
            ClearingWaves x = Edge.full();
            Edge.due("0", x.saves(0, 0), 0);
            Edge.due("0", x.saves(0, 1), 0);
            Edge.due("200", x.saves(200, 0), 0);
            Edge.due("200", x.saves(200, 1), 0);
            ClearingWaves y = heavy();
            Edge.due("above 200, too", y.saves(40, 0), 0);
        });
        Edge.test(34, "ALL PAID whose products across would be beyond a long, and two that are close", () -> {
            Edge.due("67086641440 by 1615830707", Edge.told(5, 10, 9, "b=2;d=6;a>b=17;a>c=2;a>e=3;b>c=1;b>d=13;b>e=16;"
                + "c>a=17;c>b=1;c>e=10;e>a=15;e>c=11;e>d=15").saves(9, 1), 2);
            Edge.due("133479930935 by 4754441856", Edge.told(5, 5, 7, "a=5;b=6;c=1;d=4;e=3;a>b=19;a>c=1;a>d=6;b>a=14;"
                + "b>c=19;b>d=5;b>e=8;c>a=14;c>d=13;d>c=7;d>e=13").saves(8, 1), 0);
            Edge.due("226642273 by 5267100 is just more than 56660563 by 1316775", Edge.told(5, 3, 7, "a=3;b=6;c=2;d=6;"
                + "e=2;a>b=18;a>c=19;b>c=17;c>a=18;c>b=11;c>d=4;d>b=12;e>d=12").saves(1, 1), 4);
        });
        Edge.between(34, "x", 0, 200, BAD, (x, v) -> x.saves(v, 0));
        Edge.between(34, "x by HOW 1", 0, 200, BAD, (x, v) -> x.saves(v, 1));
        Edge.outside(34, "how", 2, NONE, (x, v) -> x.saves(5, v));
        Edge.refused(34, "no such how and x too great: NONE first,", NONE, x -> x.saves(201, 2));
        Edge.refused(34, "no such how and x too little: NONE first,", NONE, x -> x.saves(-1, -1));
        Edge.asked(34, "saves", x -> x.saves(6, 1));
    }

    private static void needs() {
        Edge.test(35, "0 of one that HOLDS; the least x; -5 if none of 0 .. 200 does", () -> {
            ClearingWaves x = Edge.full();
            int[] due = {6, NOT_SO, NOT_SO, 3, 2, NOT_SO, 0, 0, 0};
            for (int k = 0; k < 9; k++) {
                Edge.due("needs " + k / 3 + " by " + k % 3, x.needs(k / 3, k % 3), due[k]);
            }
        });
        Edge.test(35, "200 is the greatest x: 200 more is enough, 201 isn't there", () -> {
            ClearingWaves x = heavy();
            x.cash(0, 41);
            Edge.due("199", x.needs(0, 0), 199);
            x.cash(0, 40);
            Edge.due("200", x.needs(0, 0), 200);
            x.cash(0, 39);
            Edge.due("201", x.needs(0, 0), NOT_SO);
            x.cash(0, 200);
            Edge.due("above 200", x.needs(0, 0), 40);
            x.cash(0, 0);
            Edge.due("240", x.needs(0, 0), NOT_SO);
        });
        Edge.test(35, "another HOUSE HOLDS though the one to which it COMES FAILS", () -> {
            ClearingWaves x = Edge.told(3, 10, 10, "a>>>c=20;a>b=5;b>c=5");
            Edge.due("b by a", x.needs(1, 0), 5);
            Edge.due("a by a", x.needs(0, 0), 25);
            Edge.due("a by b", x.needs(0, 1), NOT_SO);
        });
        Edge.outside(35, "house", 3, NONE, (x, v) -> x.needs(v, 0));
        Edge.outside(35, "to", 3, NONE, (x, v) -> x.needs(0, v));
        Edge.refused(35, "no such to, of one that no x would save: NONE, not -5,", NONE, x -> x.needs(0, 3));
        Edge.asked(35, "needs", x -> x.needs(1, 0));
        Edge.test(36, "0 if none FAILS; the least x; -5 if none of 0 .. 200 does", () -> {
            ClearingWaves x = Edge.full();
            Edge.due("by a", x.calms(0), 6);
            Edge.due("by b", x.calms(1), NOT_SO);
            Edge.due("by c", x.calms(2), NOT_SO);
            ClearingWaves y = heavy();
            y.cash(0, 40);
            Edge.due("200", y.calms(0), 200);
            y.cash(0, 39);
            Edge.due("201", y.calms(0), NOT_SO);
            for (int house = 0; house < 5; house++) {
                Edge.due("none fails", Edge.told(5, 10, 10, "a=1").calms(house), 0);
            }
            Edge.due("by the last", Edge.told(5, 10, 10, "e>a=7").calms(4), 7);
        });
        Edge.outside(36, "to", 3, NONE, (x, v) -> x.calms(v));
        Edge.asked(36, "calms", x -> x.calms(0));
        Edge.test(37, "of several the least; none FAILS; the last of five", () -> {
            Edge.due("at first", new ClearingWaves().danger(), 0);
            Edge.due("all alike", Edge.told(5, 10, 10, "a=9;e=9").danger(), 0);
            Edge.due("b and c alike", Edge.told(3, 10, 10, "b=5;c=5;b>a=5;c>a=5").danger(), 1);
            Edge.due("the last", Edge.told(5, 10, 10, "e=200;e>a=20;a>b=20").danger(), 4);
        });
        Edge.test(37, "the most HOUSES, whichever they are; all CASH, no less", () -> {
            Edge.due("two of a, one of e", Edge.told(5, 10, 10, "e=3;e>d=3;a=2;a>b=2;b>c=2").danger(), 0);
            Edge.due("200 of a, else it holds", Edge.told(4, 10, 10, "a=200;a>b=1;b>c=1;d=3;d>c=3").danger(), 0);
            Edge.due("200 of c, else it holds", Edge.told(4, 10, 10, "c=200;c>b=1;b>a=1;d=3;d>a=3").danger(), 2);
        });
        Edge.asked(37, "danger", x -> x.danger());
    }

    private static void rescue() {
        Edge.test(38, "x is 1 .. 30 and many 1 .. 6: the least and the greatest that are taken", () -> {
            ClearingWaves x = Edge.full();
            Edge.due("1, once", x.rescue(0, 0, 1, 1, 0), 3);
            Edge.same("to a", Edge.row(x, 0, 4), "1 0 0 103");
            Edge.due("1, six times", x.rescue(0, 0, 1, 6, 0), 1);
            Edge.same("to a, to b, who holds then, and to a", Edge.row(x, 0, 3), "5 1 0");
            Edge.due("30, once", x.rescue(0, 0, 30, 1, 1), 0);
            Edge.same("laid", Edge.row(x, 0, 3), "30 0 0");
            Edge.due("30, six times", x.rescue(0, 0, 30, 6, 1), 0);
            Edge.same("all to the least, of several", Edge.row(x, 0, 4), "180 0 0 103");
        });
        Edge.between(38, "x", 1, 30, BAD, (x, v) -> x.rescue(0, 0, v, 1, 0));
        Edge.between(38, "many", 1, 6, BAD, (x, v) -> x.rescue(0, 0, 1, v, 0));
        Edge.outside(38, "row", 4, NONE, (x, v) -> x.rescue(v, 0, 1, 1, 0));
        Edge.outside(38, "how", 2, NONE, (x, v) -> x.rescue(0, 0, 1, 1, v));
        Edge.refused(38, "x 31", BAD, x -> x.rescue(0, 0, 31, 1, 0));
        Edge.refused(38, "x 0", BAD, x -> x.rescue(0, 0, 0, 1, 0));
        Edge.refused(38, "many 7", BAD, x -> x.rescue(0, 0, 1, 7, 0));
        Edge.refused(38, "many 0", BAD, x -> x.rescue(0, 0, 1, 0, 0));
        Edge.refused(38, "a ROW of nothing", NOTHING, x -> x.rescue(2, 0, 1, 1, 0));
        Edge.refused(38, "no such row, x 31: NONE first,", NONE, x -> x.rescue(4, 0, 31, 1, 0));
        Edge.refused(38, "no such how, many 0: NONE first,", NONE, x -> x.rescue(0, 0, 1, 0, 2));
        Edge.refused(38, "no such how, a ROW of nothing: NONE first,", NONE, x -> x.rescue(2, 0, 1, 1, -1));
        Edge.refused(38, "no such how, i below 0: NONE first,", NONE, x -> x.rescue(0, -1, 1, 1, 2));
        Edge.refused(38, "x 0, a ROW of nothing: BAD first,", BAD, x -> x.rescue(2, 0, 0, 1, 0));
        Edge.refused(38, "many 7, a ROW of nothing: BAD first,", BAD, x -> x.rescue(2, 0, 1, 7, 0));
        Edge.refused(38, "x 31, i below 0: BAD first,", BAD, x -> x.rescue(0, -1, 31, 1, 0));
        Edge.refused(38, "many 7, not all have a place: BAD first,", BAD, x -> x.rescue(0, 18, 1, 7, 0));
        Edge.refused(38, "a ROW of nothing, i below 0: NOTHING first,", NOTHING, x -> x.rescue(2, -1, 1, 1, 0));
        Edge.refused(38, "a ROW of nothing, i far off: NOTHING first,", NOTHING, x -> x.rescue(2, MAX, 1, 1, 0));
        for (int i : new int[] {-1, -2, -3, -20, MIN, MIN + 1, MIN + 2, 20, 21, 40, 64, 1 << 30, MAX, MAX - 1, MAX - 2}) {
            Edge.refused(38, "place " + i + " of 20: none is LAID, it", BEYOND, x -> x.rescue(0, i, 1, 1, 0));
        }
        Edge.refused(38, "a ROW of 0 longs", BEYOND, x -> x.rescue(1, 0, 1, 1, 0));
        Edge.test(38, "not all were LAID: those that had a place are there all the same", () -> {
            for (int i = 17; i < 20; i++) {
                ClearingWaves x = Edge.full();
                ClearingWaves y = Edge.full();
                Edge.due("from place " + i, x.rescue(0, i, 7, 2, 0), i == 17 ? 0 : BEYOND);
                y.set(0, i, 14);
                y.set(0, i + 1, 0);
                y.set(0, i + 2, 0);
                Edge.same("all that is seen then", Edge.look(x), Edge.look(y));
            }
        });
        Edge.test(38, "by HOW, each time when all that was given before has COME", () -> {
            ClearingWaves x = Edge.told(3, 10, 10, "a>c=1;b>c=20");
            x.row(3, 3);
            Edge.due("20 to a, then 20 to b", x.rescue(3, 0, 20, 2, 0), 0);
            Edge.same("laid", Edge.row(x, 3, 3), "20 20 0");
            Edge.due("by how 1 5 and 5 to b", x.rescue(3, 0, 5, 2, 1), 3);
            Edge.same("laid", Edge.row(x, 3, 3), "0 10 0");
            Edge.due("by how 0 5 to a, 5 to b", x.rescue(3, 0, 5, 2, 0), 2);
            Edge.same("laid", Edge.row(x, 3, 3), "5 5 0");
            Edge.due("nothing is changed by it", x.fails(), 3);
        });
        Edge.test(38, "above 200, too", () -> {
            ClearingWaves x = heavy();
            x.row(0, 5);
            Edge.due("39 more", x.rescue(0, 0, 13, 3, 0), 1);
            Edge.due("40 more", x.rescue(0, 0, 20, 2, 0), 0);
            Edge.same("laid", Edge.row(x, 0, 6), "40 0 0 0 0 no");
        });
        Edge.test(38, "just the ROW is changed, in n places", () -> {
            ClearingWaves x = Edge.full();
            ClearingWaves y = Edge.full();
            Edge.due("from place 4 on", x.rescue(0, 4, 3, 1, 1), 1);
            y.set(0, 4, 3);
            y.set(0, 5, 0);
            y.set(0, 6, 0);
            Edge.same("all that is seen then", Edge.look(x), Edge.look(y));
        });
    }

    public static void main(String[] args) {
        coin();
        steps();
        saved();
        saves();
        needs();
        rescue();
        Edge.end();
    }
}
