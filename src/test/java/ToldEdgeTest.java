/** Promises 1 to 11: the edges of a new object, houses, cash, debts, costs, THE TAPE and its texts. */
public final class ToldEdgeTest {
    private static final int NONE = Edge.NONE, BAD = Edge.BAD, STATE = Edge.STATE, FULL = Edge.FULL;
    private static final int MIN = Edge.MIN, MAX = Edge.MAX;
    private static final long NO = Edge.NO;

    private static void newObject() {
        Edge.test(1, "two HOUSES at first, no third one", () -> {
            ClearingWaves x = new ClearingWaves();
            Edge.due("n", x.count(0), 2);
            Edge.due("house 0", x.wave(0), 0);
            Edge.due("house 1", x.wave(1), 0);
            Edge.due("house 2", x.wave(2), NONE);
            Edge.due("owed to house 1", x.owed(0, 1, 2), 0);
            Edge.due("owed to house 2", x.owed(0, 2, 2), NONE);
        });
        Edge.test(1, "CASH, OWED, UNITS are 0 at first, COSTS are both 10", () -> {
            ClearingWaves x = new ClearingWaves();
            Edge.due("a", x.count(1), 10);
            Edge.due("b", x.count(2), 10);
            for (int k = 0; k < 6; k++) {
                int cls = k / 2;
                Edge.due("owed " + k, x.owed(k % 2, 1 - k % 2, cls), 0);
                for (int fund = 0; fund < 3; fund++) {
                    Edge.due("units " + fund + " " + k, x.unitsOf(fund, k % 2, cls), 0);
                }
            }
            Edge.due("cash 0", x.count(10), 0);
            Edge.due("cash 1", x.count(11), 0);
            Edge.due("cash of all", x.count(3), 0);
            Edge.due("due of all", x.count(4), 0);
            Edge.due("owed above 0", x.count(7), 0);
        });
        Edge.test(1, "THE TAPE is empty, THE PAPER holds nothing, ROWS hold nothing, there is no IMAGE", () -> {
            ClearingWaves x = new ClearingWaves();
            Edge.due("tape", x.count(5), 0);
            Edge.due("paper", x.count(6), 0);
            Edge.due("byte 0", x.paper(0), NONE);
            for (int row = 0; row < 4; row++) {
                Edge.due("get " + row, x.get(row, 0), NO);
                Edge.due("set " + row, x.set(row, 0, 1), Edge.NOTHING);
                Edge.due("lay " + row, x.lay(row, 0), Edge.NOTHING);
                Edge.due("judge " + row, x.judge(row, 0), STATE);
            }
            Edge.due("undo", x.undo(), STATE);
            Edge.due("clear", x.clear(), 0);
        });
        Edge.test(1, "HOUSES that owe nothing: none FAILS, every PART is 1, nothing is lost, no RING", () -> {
            ClearingWaves x = new ClearingWaves();
            Edge.due("waves", x.waves(), 0);
            Edge.due("fails", x.fails(), 0);
            Edge.due("steps", x.steps(), 0);
            Edge.due("coinFails", x.coinFails(), 0);
            Edge.due("gone", x.gone(), 0);
            for (int k = 0; k < 6; k++) {
                Edge.fraction("part " + k, x.part(k / 3, k % 3, 0), x.part(k / 3, k % 3, 1), 1, 1);
            }
            for (int cls = 0; cls < 3; cls++) {
                Edge.due("ring " + cls, x.ring(cls, 0), Edge.NOT_SO);
                Edge.due("net " + cls, x.net(cls), 0);
                Edge.fraction("all " + cls, x.all(cls, 0), x.all(cls, 1), 0, 1);
            }
            Edge.due("best", x.best(), Edge.NOT_SO);
            Edge.due("spell", x.spell(), 0);
            Edge.due("danger", x.danger(), 0);
            Edge.due("calms", x.calms(1), 0);
        });
        Edge.test(1, "two objects have nothing in common", () -> {
            ClearingWaves x = Edge.full();
            ClearingWaves y = new ClearingWaves();
            x.image();
            Edge.due("n", y.count(0), 2);
            Edge.due("cash", y.count(3), 0);
            Edge.due("row", y.get(0, 0), NO);
            Edge.due("tape", y.count(5), 0);
            Edge.due("paper", y.count(6), 0);
            Edge.due("image", y.undo(), STATE);
            y.houses(5);
            Edge.due("n of the other", x.count(0), 3);
        });
        Edge.test(1, "an object is used for 512 calls: the last is answered as the first", () -> {
            ClearingWaves x = new ClearingWaves();
            for (int call = 1; call < 512; call++) {
                Edge.due("call " + call, x.feed(97), call <= 120 ? call : FULL);
            }
            Edge.due("call 512", x.clear(), 120);
        });
    }

    private static void houses() {
        Edge.test(2, "n is 2 .. 5: 2 is the least, 5 the greatest that is taken", () -> {
            ClearingWaves x = new ClearingWaves();
            for (int n : new int[] {5, 2, 3, 4}) {
                Edge.due("houses", x.houses(n), n);
                Edge.due("n", x.count(0), n);
                Edge.due("the last house", x.wave(n - 1), 0);
                Edge.due("the one behind it", x.wave(n), NONE);
            }
        });
        Edge.between(2, "n", 2, 5, BAD, (x, v) -> x.houses(v));
        Edge.refused(2, "n 1, one too few,", BAD, x -> x.houses(1));
        Edge.refused(2, "n 6, one too many,", BAD, x -> x.houses(6));
        Edge.test(2, "all else is as at first, also if n is what it was", () -> {
            for (int n = 2; n <= 5; n++) {
                ClearingWaves x = Edge.full();
                x.houses(n);
                Edge.due("a", x.count(1), 10);
                Edge.due("b", x.count(2), 10);
                Edge.due("cash", x.count(3), 0);
                Edge.due("due", x.count(4), 0);
                Edge.due("owed", x.count(7), 0);
                Edge.due("waves", x.waves(), 0);
                Edge.due("steps", x.steps(), 0);
                for (int k = 0; k < 9 * n; k++) {
                    Edge.due("units " + k, x.unitsOf(k % 3, k / 9, k / 3 % 3), 0);
                }
            }
        });
        Edge.test(2, "a HOUSE that went has nothing when it comes again", () -> {
            ClearingWaves x = Edge.told(5, 10, 10, "e=9;e>a=7;a>>e=8");
            x.units(2, 4, 2, 6);
            x.houses(2);
            Edge.due("cash of all", x.count(3), 0);
            Edge.due("owed above 0", x.count(7), 0);
            x.houses(5);
            Edge.due("cash", x.count(14), 0);
            Edge.due("owed by it", x.owed(4, 0, 0), 0);
            Edge.due("owed to it", x.owed(0, 4, 1), 0);
            Edge.due("units", x.unitsOf(2, 4, 2), 0);
        });
        Edge.test(2, "ROWS, THE TAPE, THE PAPER, THE IMAGE stay", () -> {
            ClearingWaves x = Edge.full();
            String page = Edge.page(x);
            String told = Edge.row(x, 3, 13);
            x.houses(2);
            Edge.due("row 0, first", x.get(0, 0), 100);
            Edge.due("row 0, last", x.get(0, 19), 119);
            Edge.due("row 1 is a row of 0", x.set(1, 0, 1), Edge.BEYOND);
            Edge.due("row 2 is nothing", x.set(2, 0, 1), Edge.NOTHING);
            Edge.same("row 3", Edge.row(x, 3, 13), told);
            Edge.due("tape", x.count(5), 5);
            Edge.same("paper", Edge.page(x), page);
            Edge.feed(x, "c");
            Edge.due("what stands on the tape is read as of two houses", x.read(), -104);
            Edge.due("image", x.undo(), 4);
            Edge.due("cash of the image", x.count(13), 11);
            Edge.due("units of the image", x.unitsOf(2, 3, 0), 17);
        });
    }

    private static void cash() {
        Edge.test(3, "CASH is 0 .. 200: 0 is the least, 200 the greatest that is taken", () -> {
            ClearingWaves x = new ClearingWaves();
            Edge.due("to 200", x.cash(1, 200), 0);
            Edge.due("it is", x.count(11), 200);
            Edge.due("to 0", x.cash(1, 0), 200);
            Edge.due("it is", x.count(11), 0);
            Edge.due("to 1", x.cash(1, 1), 0);
            Edge.due("to 199", x.cash(1, 199), 1);
            Edge.due("the other", x.count(10), 0);
        });
        Edge.between(3, "v", 0, 200, BAD, (x, v) -> x.cash(2, v));
        Edge.outside(3, "house", 3, NONE, (x, v) -> x.cash(v, 5));
        Edge.refused(3, "v 201", BAD, x -> x.cash(0, 201));
        Edge.refused(3, "v -1", BAD, x -> x.cash(0, -1));
        Edge.refused(3, "house 3 of three", NONE, x -> x.cash(3, 5));
        Edge.refused(3, "no such HOUSE and v too great: NONE first,", NONE, x -> x.cash(3, 201));
        Edge.refused(3, "no such HOUSE and v too little: NONE first,", NONE, x -> x.cash(-1, -1));
        Edge.test(3, "the first and the last HOUSE of five, and THE CLEARING by what is told then", () -> {
            ClearingWaves x = Edge.told(5, 10, 10, "a=1;e=5;a>e=1;e>a=5");
            Edge.due("none fails", x.fails(), 0);
            Edge.due("in coins", x.coinFails(), 0);
            Edge.due("e", x.cash(4, 3), 5);
            Edge.due("e fails: 3 and 1 for 5", x.fails(), 16);
            Edge.due("in coins", x.coinFails(), 16);
            Edge.due("e anew", x.cash(4, 4), 3);
            Edge.due("e has just enough", x.fails(), 0);
            Edge.due("in coins", x.coinFails(), 0);
            Edge.due("a", x.cash(0, 0), 1);
            Edge.due("a gets 5", x.fails(), 0);
        });
    }

    private static void owe() {
        Edge.test(4, "OWED is 0 .. 20: 0 is the least, 20 the greatest that is taken", () -> {
            ClearingWaves x = new ClearingWaves();
            Edge.due("to 20", x.owe(0, 1, 2, 20), 0);
            Edge.due("it is", x.owed(0, 1, 2), 20);
            Edge.due("to 0", x.owe(0, 1, 2, 0), 20);
            Edge.due("it is", x.owed(0, 1, 2), 0);
            Edge.due("to 1", x.owe(0, 1, 2, 1), 0);
            Edge.due("to 19", x.owe(0, 1, 2, 19), 1);
        });
        Edge.between(4, "v", 0, 20, BAD, (x, v) -> x.owe(0, 1, 0, v));
        Edge.outside(4, "from", 3, NONE, (x, v) -> x.owe(v, 1, 0, 5));
        Edge.outside(4, "to", 3, NONE, (x, v) -> x.owe(1, v, 0, 5));
        Edge.outside(4, "cls", 3, NONE, (x, v) -> x.owe(0, 1, v, 5));
        Edge.refused(4, "v 21", BAD, x -> x.owe(0, 1, 0, 21));
        Edge.refused(4, "v -1", BAD, x -> x.owe(0, 1, 0, -1));
        Edge.refused(4, "cls 3", NONE, x -> x.owe(0, 1, 3, 5));
        Edge.refused(4, "to 3 of three", NONE, x -> x.owe(0, 3, 0, 5));
        for (int h = 0; h < 3; h++) {
            int house = h;
            Edge.refused(4, "house " + h + " to itself", NONE, x -> x.owe(house, house, 0, 5));
        }
        Edge.refused(4, "itself and v too great: NONE first,", NONE, x -> x.owe(1, 1, 0, 21));
        Edge.refused(4, "no such from and v too great: NONE first,", NONE, x -> x.owe(3, 1, 0, 21));
        Edge.refused(4, "no such to and v too little: NONE first,", NONE, x -> x.owe(0, -1, 0, -1));
        Edge.refused(4, "no such cls and v too great: NONE first,", NONE, x -> x.owe(0, 1, 3, MAX));
        Edge.test(4, "every debt has a place of its own, the first and the last too", () -> {
            ClearingWaves x = Edge.told(5, 10, 10, "");
            for (int k = 0; k < 75; k++) {
                if (k / 15 != k / 3 % 5) {
                    Edge.due("was " + k, x.owe(k / 15, k / 3 % 5, k % 3, 1 + k % 20), 0);
                }
            }
            Edge.due("how many", x.count(7), 60);
            for (int k = 0; k < 75; k++) {
                Edge.due("owed " + k, x.owed(k / 15, k / 3 % 5, k % 3), k / 15 == k / 3 % 5 ? NONE : 1 + k % 20);
            }
        });
        Edge.test(4, "THE CLEARING and coins are by what is OWED then", () -> {
            ClearingWaves x = Edge.told(2, 10, 10, "a=5;a>b=5");
            Edge.due("holds", x.fails() + x.coinFails(), 0);
            Edge.due("one more in another class", x.owe(0, 1, 2, 1), 0);
            Edge.due("fails", x.fails(), 1);
            Edge.due("in coins", x.coinFails(), 1);
            Edge.due("no more", x.owe(0, 1, 2, 0), 1);
            Edge.due("holds", x.fails() + x.coinFails(), 0);
        });
        Edge.outside(5, "from", 3, NONE, (x, v) -> x.owed(v, 1, 0));
        Edge.outside(5, "to", 3, NONE, (x, v) -> x.owed(1, v, 0));
        Edge.outside(5, "cls", 3, NONE, (x, v) -> x.owed(0, 1, v));
        Edge.test(5, "of one HOUSE to itself there is none", () -> {
            for (int n = 2; n <= 5; n++) {
                ClearingWaves x = Edge.told(n, 10, 10, "a>b=20");
                for (int k = 0; k < 3 * n; k++) {
                    Edge.due("itself", x.owed(k / 3, k / 3, k % 3), NONE);
                }
                Edge.due("one behind the last", x.owed(0, n, 0), NONE);
                Edge.due("the last", x.owed(0, n - 1, 0), n == 2 ? 20 : 0);
            }
        });
        Edge.asked(5, "owed", x -> x.owed(0, 1, 0));
    }

    private static void costs() {
        Edge.test(6, "a and b are 0 .. 10 each: 0 and 10 are taken", () -> {
            ClearingWaves x = new ClearingWaves();
            int[] pairs = {0, 0, 0, 10, 10, 0, 1, 9, 9, 1, 10, 10};
            for (int k = 0; k < pairs.length; k += 2) {
                Edge.due("costs", x.costs(pairs[k], pairs[k + 1]), 1);
                Edge.due("a", x.count(1), pairs[k]);
                Edge.due("b", x.count(2), pairs[k + 1]);
            }
        });
        Edge.between(6, "a", 0, 10, BAD, (x, v) -> x.costs(v, 4));
        Edge.between(6, "b", 0, 10, BAD, (x, v) -> x.costs(4, v));
        Edge.refused(6, "a 11", BAD, x -> x.costs(11, 3));
        Edge.refused(6, "a -1", BAD, x -> x.costs(-1, 3));
        Edge.refused(6, "b 11: a isn't told either,", BAD, x -> x.costs(3, 11));
        Edge.refused(6, "b -1: a isn't told either,", BAD, x -> x.costs(3, -1));
        Edge.refused(6, "both a and b", BAD, x -> x.costs(-1, 11));
        Edge.test(6, "THE CLEARING and coins are by COSTS told then", () -> {
            ClearingWaves x = Edge.told(2, 10, 10, "a=10;a>b=20");
            Edge.due("pays all it has", x.part(0, 0, 1), 2);
            Edge.due("in coins", x.coin(0, 1, 0), 10);
            x.costs(5, 0);
            Edge.due("pays half of it", x.part(0, 0, 1), 4);
            Edge.due("in coins", x.coin(0, 1, 0), 5);
            x.costs(0, 10);
            Edge.fraction("nothing", x.part(0, 0, 0), x.part(0, 0, 1), 0, 1);
            Edge.due("in coins", x.coin(0, 1, 0), 0);
        });
    }

    // Of three houses: 0 owes 1 nine and 2 fifteen, in class 0.
    private static void cedes(ClearingWaves x) {
        x.owe(0, 1, 0, 9);
        x.owe(0, 2, 0, 15);
    }

    private static void cede() {
        Edge.test(7, "v is 1 or more: 1 is the least that is taken, all that is OWED the greatest", () -> {
            ClearingWaves x = Edge.told(3, 10, 10, "a>b=20");
            Edge.due("one", x.cede(0, 1, 2, 0, 1), 1);
            Edge.due("left", x.owed(0, 1, 0), 19);
            Edge.due("the third's", x.owed(0, 2, 0), 1);
            Edge.due("20 is more", x.cede(0, 1, 2, 0, 20), STATE);
            Edge.due("all", x.cede(0, 1, 2, 0, 19), 1);
            Edge.due("left", x.owed(0, 1, 0), 0);
            Edge.due("the third's", x.owed(0, 2, 0), 20);
            Edge.due("nothing more", x.cede(0, 1, 2, 0, 1), STATE);
            Edge.due("all 20 at once, back", x.cede(0, 2, 1, 0, 20), 1);
            Edge.due("back", x.owed(0, 1, 0), 20);
            Edge.due("how many are owed", x.count(7), 1);
        });
        Edge.test(7, "to the third just 20 is not FULL", () -> {
            ClearingWaves x = Edge.told(3, 10, 10, "a>b=9;a>c=15");
            Edge.due("20", x.cede(0, 1, 2, 0, 5), 1);
            Edge.due("the third's", x.owed(0, 2, 0), 20);
            Edge.due("left", x.owed(0, 1, 0), 4);
        });
        Edge.refused(7, "v 0", ToldEdgeTest::cedes, BAD, x -> x.cede(0, 1, 2, 0, 0));
        Edge.refused(7, "v -1", ToldEdgeTest::cedes, BAD, x -> x.cede(0, 1, 2, 0, -1));
        Edge.refused(7, "the least v", ToldEdgeTest::cedes, BAD, x -> x.cede(0, 1, 2, 0, MIN));
        Edge.refused(7, "OWED is one less", ToldEdgeTest::cedes, STATE, x -> x.cede(0, 2, 1, 0, 16));
        Edge.refused(7, "nothing is OWED", ToldEdgeTest::cedes, STATE, x -> x.cede(0, 1, 2, 1, 1));
        Edge.refused(7, "the greatest v", ToldEdgeTest::cedes, STATE, x -> x.cede(0, 1, 2, 0, MAX));
        Edge.refused(7, "21 to the third", ToldEdgeTest::cedes, FULL, x -> x.cede(0, 1, 2, 0, 6));
        Edge.refused(7, "OWED is less and FULL: STATE first,", ToldEdgeTest::cedes, STATE, x -> x.cede(0, 1, 2, 0, 10));
        Edge.refused(7, "v 0 where the third has 20", x -> x.owe(0, 2, 0, 20), BAD, x -> x.cede(0, 1, 2, 0, 0));
        Edge.refused(7, "v 0 and nothing is OWED", BAD, x -> x.cede(1, 2, 0, 1, 0));
        Edge.refused(7, "from is to", NONE, x -> x.cede(0, 0, 2, 0, 1));
        Edge.refused(7, "from is third", NONE, x -> x.cede(0, 1, 0, 0, 1));
        Edge.refused(7, "to is third", NONE, x -> x.cede(0, 1, 1, 0, 1));
        Edge.refused(7, "all three are one", NONE, x -> x.cede(0, 0, 0, 0, 1));
        Edge.refused(7, "no such third and v 0: NONE first,", NONE, x -> x.cede(0, 1, 3, 0, 0));
        Edge.refused(7, "no such cls and v 0: NONE first,", NONE, x -> x.cede(0, 1, 2, 3, 0));
        Edge.refused(7, "to is third and OWED is less: NONE first,", NONE, x -> x.cede(0, 1, 1, 0, 11));
        Edge.refused(7, "from is third and v 0: NONE first,", NONE, x -> x.cede(0, 1, 0, 0, 0));
        Edge.outside(7, "from", 3, NONE, (x, v) -> x.cede(v, 1, 2, 0, 1));
        Edge.outside(7, "to", 3, NONE, (x, v) -> x.cede(0, v, 2, 0, 1));
        Edge.outside(7, "third", 3, NONE, (x, v) -> x.cede(0, 1, v, 0, 1));
        Edge.outside(7, "cls", 3, NONE, (x, v) -> x.cede(0, 1, 2, v, 1));
        Edge.below(7, "v", 1, BAD, (x, v) -> x.cede(0, 1, 2, 0, v));
        Edge.test(7, "of two HOUSES there is no third one", () -> {
            ClearingWaves x = Edge.told(2, 10, 10, "a>b=5");
            for (int third = -1; third < 4; third++) {
                Edge.due("third " + third, x.cede(0, 1, third, 0, 1), NONE);
            }
            Edge.due("owed", x.owed(0, 1, 0), 5);
        });
        Edge.test(7, "just this CLASS and these HOUSES; THE CLEARING is by what is OWED then", () -> {
            ClearingWaves x = Edge.told(5, 10, 10, "e=4;e>>>a=4;a>d=4;e>>a=3;e=7;e>>>d=2;e>d=1;e=10");
            Edge.due("none fails", x.fails() + x.coinFails(), 0);
            Edge.due("ceded", x.cede(4, 0, 3, 2, 3), 1);
            Edge.due("class 2", x.owed(4, 0, 2), 1);
            Edge.due("to the third", x.owed(4, 3, 2), 5);
            Edge.due("class 1", x.owed(4, 0, 1), 3);
            Edge.due("to the third in class 0", x.owed(4, 3, 0), 1);
            Edge.due("a has 3 and 1 for 4", x.fails() + x.coinFails(), 0);
            Edge.due("ceded", x.cede(4, 0, 3, 2, 1), 1);
            Edge.due("a has 3 for 4", x.fails(), 1);
            Edge.due("in coins", x.coinFails(), 1);
        });
    }

    // Of three houses: 0 has 6 and owes 1, who has 196, nine, and 2 seven, in class 0.
    private static void settles(ClearingWaves x) {
        x.cash(0, 6);
        x.cash(1, 196);
        x.owe(0, 1, 0, 9);
        x.owe(0, 2, 0, 7);
    }

    private static void settle() {
        Edge.test(8, "v is 1 or more: 1 is the least that is taken", () -> {
            ClearingWaves x = Edge.told(2, 10, 10, "a=3;a>b=3");
            Edge.due("one", x.settle(0, 1, 0, 1), 1);
            Edge.due("owed", x.owed(0, 1, 0), 2);
            Edge.due("cash", x.count(10), 2);
            Edge.due("theirs", x.count(11), 1);
            Edge.due("all that is owed, all its cash", x.settle(0, 1, 0, 2), 1);
            Edge.due("owed", x.owed(0, 1, 0), 0);
            Edge.due("cash", x.count(10), 0);
            Edge.due("theirs", x.count(11), 3);
        });
        Edge.test(8, "20 is the greatest v that can be paid, and just all CASH can be", () -> {
            ClearingWaves x = Edge.told(2, 10, 10, "a=20;b=180;a>>>b=20");
            Edge.due("20", x.settle(0, 1, 2, 20), 1);
            Edge.due("cash", x.count(10), 0);
            Edge.due("theirs", x.count(11), 200);
        });
        Edge.test(8, "CASH of the other just 200 is not FULL", () -> {
            ClearingWaves x = Edge.told(2, 10, 10, "a=200;b=199;a>b=20");
            Edge.due("201", x.settle(0, 1, 0, 2), FULL);
            Edge.due("200", x.settle(0, 1, 0, 1), 1);
            Edge.due("then 201", x.settle(0, 1, 0, 1), FULL);
            Edge.due("cash", x.count(10), 199);
            Edge.due("theirs", x.count(11), 200);
            Edge.due("owed", x.owed(0, 1, 0), 19);
        });
        Edge.refused(8, "v 0", ToldEdgeTest::settles, BAD, x -> x.settle(0, 1, 0, 0));
        Edge.refused(8, "v -1", ToldEdgeTest::settles, BAD, x -> x.settle(0, 1, 0, -1));
        Edge.refused(8, "the least v", ToldEdgeTest::settles, BAD, x -> x.settle(0, 1, 0, MIN));
        Edge.refused(8, "CASH is one less", ToldEdgeTest::settles, STATE, x -> x.settle(0, 2, 0, 7));
        Edge.refused(8, "OWED is one less", x -> Edge.tell(x, "a=200;c=0;a>c=7"), STATE, x -> x.settle(0, 2, 0, 8));
        Edge.refused(8, "nothing is OWED", ToldEdgeTest::settles, STATE, x -> x.settle(0, 2, 1, 1));
        Edge.refused(8, "no CASH", x -> x.cash(0, 0), STATE, x -> x.settle(0, 1, 0, 1));
        Edge.refused(8, "the greatest v", ToldEdgeTest::settles, STATE, x -> x.settle(0, 1, 0, MAX));
        Edge.refused(8, "201 is the other's then", ToldEdgeTest::settles, FULL, x -> x.settle(0, 1, 0, 5));
        Edge.refused(8, "CASH is less and FULL: STATE first,", ToldEdgeTest::settles, STATE, x -> x.settle(0, 1, 0, 7));
        Edge.refused(8, "OWED is less and FULL: STATE first,",
            x -> Edge.tell(x, "a=200;b=200;a>b=3"), STATE, x -> x.settle(0, 1, 0, 4));
        Edge.refused(8, "v 0 where the other has 200", x -> x.cash(1, 200), BAD, x -> x.settle(0, 1, 0, 0));
        Edge.refused(8, "v 0 and nothing is OWED", BAD, x -> x.settle(2, 1, 0, 0));
        Edge.refused(8, "to itself", NONE, x -> x.settle(0, 0, 0, 1));
        Edge.refused(8, "to itself and v 0: NONE first,", NONE, x -> x.settle(2, 2, 0, 0));
        Edge.refused(8, "no such HOUSE and v 0: NONE first,", NONE, x -> x.settle(3, 1, 0, 0));
        Edge.refused(8, "no such HOUSE and nothing OWED: NONE first,", NONE, x -> x.settle(0, 3, 0, 20));
        Edge.refused(8, "no such cls and v 0: NONE first,", NONE, x -> x.settle(0, 1, 3, 0));
        Edge.outside(8, "from", 3, NONE, (x, v) -> x.settle(v, 1, 0, 1));
        Edge.outside(8, "to", 3, NONE, (x, v) -> x.settle(0, v, 0, 1));
        Edge.outside(8, "cls", 3, NONE, (x, v) -> x.settle(0, 1, v, 1));
        Edge.below(8, "v", 1, BAD, (x, v) -> x.settle(0, 1, 0, v));
        Edge.test(8, "just this CLASS and these HOUSES; THE CLEARING is by what is told then", () -> {
            ClearingWaves x = Edge.told(5, 10, 10, "e=5;e>>>a=3;e>>a=3;e>>>d=3;a=7;a>c=9");
            Edge.due("e fails", x.fails(), 16);
            Edge.due("in coins", x.coinFails(), 16);
            Edge.due("settled", x.settle(4, 0, 2, 2), 1);
            Edge.due("class 2", x.owed(4, 0, 2), 1);
            Edge.due("class 1", x.owed(4, 0, 1), 3);
            Edge.due("to d", x.owed(4, 3, 2), 3);
            Edge.due("cash of e", x.count(14), 3);
            Edge.due("cash of a", x.count(10), 9);
            Edge.due("what e pays then: 3 of 7, in class 1", x.part(4, 1, 0), 1);
            Edge.due("nothing in class 2", x.part(4, 2, 0), 0);
            Edge.due("in coins", x.coin(4, 0, 1), 3);
        });
    }

    private static void feed() {
        Edge.test(9, "a byte is 1 .. 127: 1 is the least, 127 the greatest that is taken", () -> {
            ClearingWaves x = new ClearingWaves();
            Edge.due("1", x.feed(1), 1);
            Edge.due("127", x.feed(127), 2);
            Edge.due("2", x.feed(2), 3);
            Edge.due("126", x.feed(126), 4);
        });
        Edge.between(9, "letter", 1, 127, BAD, (x, v) -> x.feed(v));
        Edge.refused(9, "0", BAD, x -> x.feed(0));
        Edge.refused(9, "128", BAD, x -> x.feed(128));
        Edge.refused(9, "a letter and 256", BAD, x -> x.feed('a' + 256));
        Edge.refused(9, "a letter less 256", BAD, x -> x.feed('a' - 256));
        Edge.refused(9, "byte 121", x -> Edge.feed(x, ";".repeat(115)), FULL, x -> x.feed('a'));
        Edge.refused(9, "0 at THE TAPE's end: BAD first,", x -> Edge.feed(x, ";".repeat(115)), BAD, x -> x.feed(0));
        Edge.refused(9, "128 at THE TAPE's end: BAD first,", x -> Edge.feed(x, ";".repeat(115)), BAD, x -> x.feed(128));
        Edge.test(9, "THE TAPE holds 0 .. 120 bytes: byte 120 is the last that comes", () -> {
            ClearingWaves x = new ClearingWaves();
            for (int k = 1; k <= 119; k++) {
                Edge.due("byte", x.feed("a=1;".charAt((k - 1) % 4)), k);
            }
            Edge.due("byte 120", x.feed('2'), 120);
            Edge.due("length", x.count(5), 120);
            Edge.due("byte 121", x.feed('3'), FULL);
            Edge.due("byte 122", x.feed('4'), FULL);
            Edge.due("length", x.count(5), 120);
            Edge.due("it reads without what was refused", x.read(), 30);
            Edge.due("cash", x.count(10), 12);
            Edge.due("there is room then", x.feed('a'), 1);
        });
    }

    private static void clear() {
        Edge.test(10, "with 0, with 1 and with 120 bytes", () -> {
            ClearingWaves x = new ClearingWaves();
            Edge.due("0", x.clear(), 0);
            x.feed('a');
            Edge.due("1", x.clear(), 1);
            Edge.due("0 again", x.clear(), 0);
            Edge.feed(x, "a".repeat(120));
            Edge.due("full", x.feed('a'), FULL);
            Edge.due("120", x.clear(), 120);
            Edge.due("empty", x.count(5), 0);
            Edge.due("nothing is read", x.read(), -100);
            Edge.due("there is room then", x.feed('b'), 1);
            Edge.feed(x, "=7");
            Edge.due("nothing of it is left", x.read(), 1);
            Edge.due("cash of b", x.count(11), 7);
        });
        Edge.test(10, "nothing else is changed", () -> {
            ClearingWaves x = Edge.full();
            ClearingWaves y = Edge.full();
            Edge.due("bytes", x.clear(), 5);
            Edge.feed(x, "b=9;c");
            Edge.same("all else", Edge.look(x), Edge.look(y));
        });
    }

    private static void fault(int n, String text, int place) {
        ClearingWaves x = Edge.told(n, 10, 10, "a=3;b=4;a>b=5;b>>a=6;a>>>b=7");
        Edge.due("read of " + text, Edge.read(x, text), -100 - place);
        Edge.due("the tape then", x.count(5), 0);
        Edge.due("cash of a", x.count(10), 3);
        Edge.due("cash of all", x.count(3), 7);
        Edge.due("due of all", x.count(4), 18);
        Edge.due("owed, class 1", x.owed(1, 0, 1), 6);
        Edge.due("what is read next", Edge.read(x, "a=0"), 1);
    }

    private static void faults(String sentence, int n, Object... textsAndPlaces) {
        for (int k = 0; k < textsAndPlaces.length; k += 2) {
            String text = (String) textsAndPlaces[k];
            int place = (Integer) textsAndPlaces[k + 1];
            String shown = text.length() < 40 ? text : text.substring(0, 10) + ".. of " + text.length();
            Edge.test(11, sentence + ": \"" + shown + "\" with " + n + " HOUSES", () -> fault(n, text, place));
        }
    }

    private static void reads() {
        faults("an empty TAPE: one or more parts", 2, "", 0);
        faults("the length, if it ends too early", 2, "a", 1, "b", 1, "a=", 2, "a>", 2, "a>>", 3, "a>>>", 4, "a>b", 3,
            "a>>b", 4, "a>>>b", 5, "a>b=", 4, "a>>>b=", 6, "a=1;", 4, "a=200;", 6, "a>b=20;", 7, "a=1;b", 5,
            "a=1;b>", 6, "a=1;a=2;", 8);
        faults("the first byte with which no such text goes on, at a part's begin", 2, "=1", 0, ";a=1", 0, ">b=1", 0,
            "1", 0, "A=1", 0, "`=1", 0, "c=1", 0, " a=1", 0, "a=1;;b=1", 4, "a=1; b=1", 4, "a=1;c=1", 4, "a=1;=1", 4,
            "a=1;1", 4, "\u0001", 0, "\u007f", 0, "z", 0);
        faults("behind a letter", 2, "ab=1", 1, "a;b=1", 1, "a1", 1, "a =1", 1, "a<b=1", 1, "aa", 1);
        faults("behind >", 2, "a>=1", 2, "a>1", 2, "a>;", 2, "a> b=1", 2, "a>>=1", 3, "a>>>=1", 4, "a>>>1", 4);
        faults("one to three >: a fourth is a byte with which none goes on", 2, "a>>>>b=1", 4, "a>>>>", 4, "b>>>>a", 4);
        faults("the same letter", 2, "a>a=1", 2, "a>>a=1", 3, "a>>>a=1", 4, "b>b=1", 2, "a=1;b>>b", 7);
        faults("one of a HOUSE that there isn't", 2, "c=1", 0, "a>c=1", 2, "a>>>e=1", 4, "e>a=1", 0);
        faults("one of a HOUSE that there isn't", 3, "d=1", 0, "c>d=1", 2);
        faults("one of a HOUSE that there isn't", 4, "e=1", 0, "d>e=1", 2);
        faults("one of a HOUSE that there isn't", 5, "f=1", 0, "e>f=1", 2, "z>a=1", 0);
        faults("behind the second letter", 2, "a>b1", 3, "a>b;", 3, "a>b>", 3, "a>ba", 3, "a>>b =1", 4);
        faults("behind =", 2, "a=;", 2, "a==1", 2, "a=-1", 2, "a=+1", 2, "a= 1", 2, "a=b", 2, "a=/", 2, "a=:", 2,
            "a>b=;", 4, "a>b==1", 4, "a>b=-1", 4, "a>b=/", 4, "a>b=:", 4);
        faults("behind a number", 2, "a=1 ", 3, "a=1a", 3, "a=1,b=1", 3, "a=12=", 4, "a=1/", 3, "a=1:", 3, "a=1>", 3,
            "a>b=1 ", 5, "a>b=1a", 5, "a>b=20 ", 6);
        faults("1 to 3 figures: a fourth is a byte with which none goes on", 2, "a=0000", 5, "a=2000", 5, "a=1999", 5,
            "a=0201", 5, "a=200;b=0300", 11);
        faults("1 or 2 figures: a third is a byte with which none goes on", 2, "a>b=000", 6, "a>b=200", 6,
            "a>b=199", 6, "a>b=021", 6, "a>>>b=100", 8);
        faults("a number that is too great, where it begins", 2, "a=201", 2, "a=999", 2, "a=300", 2, "b=201;", 2,
            "a=1;b=201", 6, "a>b=21", 4, "a>b=99", 4, "a>>b=21", 5, "a>>>b=30", 6, "a=1;a>b=21", 8);
        faults("it is too great by its first 3, 2 figures, whatever stands behind them", 2, "a=2010", 2, "a=201x", 2,
            "a=9999", 2, "a=2999", 2, "a>b=210", 4, "a>b=21x", 4, "a>b=999", 4, "a>b=21;;", 4);
        faults("the first that is met from the left", 2, "a=201;c=1", 2, "c=1;a=201", 0, "a=1x;a=201", 3,
            "a=201;a>b=21", 2, "a>b=21;a=201", 4, "a=20;x;a=201", 5, "a=1;b>b=99", 6);
        faults("with 120 bytes", 2, "a=1;".repeat(30), 120, "a=1;".repeat(29) + "b=2x", 119,
            "a=01;".repeat(23) + "a=201", 117, "x".repeat(120), 0);
        Edge.test(11, "a text with a FAULT does nothing but that THE TAPE is empty then", () -> {
            ClearingWaves x = Edge.full();
            ClearingWaves y = Edge.full();
            Edge.due("the first part can be done, the second ends too early", x.read(), -105);
            y.clear();
            Edge.same("all that is seen then", Edge.look(x), Edge.look(y));
        });
    }

    private static void empties() {
        Edge.test(11, "what stood on THE TAPE before isn't there any more, where a text ends too early", () -> {
            ClearingWaves x = new ClearingWaves();
            Edge.due("a text", Edge.read(x, "a>>b=15"), 1);
            Edge.due("a letter", Edge.read(x, "a"), -101);
            Edge.due("a letter and >", Edge.read(x, "a>"), -102);
            Edge.due("all but =", Edge.read(x, "a>>b"), -104);
            Edge.due("all but the number", Edge.read(x, "a>>b="), -105);
            Edge.due("a figure less", Edge.read(x, "a>>b=1"), 1);
            Edge.due("owed", x.owed(0, 1, 1), 1);
            Edge.due("another text", Edge.read(x, "a=12;b=7"), 2);
            Edge.due("a part less", Edge.read(x, "a=12"), 1);
            Edge.due("a part and ;", Edge.read(x, "a=1;"), -104);
            Edge.feed(x, "a=120");
            x.clear();
            Edge.due("behind clear", Edge.read(x, "a=1"), 1);
            Edge.due("cash", x.count(10), 1);
            Edge.due("nothing", x.read(), -100);
        });
        faults("at the end of 120 bytes, too early", 2, "a=1;".repeat(29) + "a=1;", 120,
            "a=01;" + "a=1;".repeat(28) + "a>b", 120, "a=1;".repeat(29) + "a>b=", 120,
            "a=01;".repeat(3) + "a=1;".repeat(26) + "a", 120, "a=01;a=01;" + "a=1;".repeat(27) + "a>", 120);
    }

    private static void length(String text) {
        Edge.due("bytes of a text", text.length(), 120);
    }

    private static void taken(String text, int parts, int n, int house, int cash, int from, int to, int cls, int owed) {
        ClearingWaves x = Edge.told(n, 10, 10, "");
        Edge.due("read of " + text, Edge.read(x, text), parts);
        Edge.due("the tape then", x.count(5), 0);
        Edge.due("cash by " + text, x.count(10 + house), cash);
        Edge.due("owed by " + text, x.owed(from, to, cls), owed);
    }

    private static void texts() {
        Edge.test(11, "CASH of 1 to 3 figures, 200 at most", () -> {
            for (String v : new String[] {"0", "00", "000", "1", "01", "001", "9", "10", "99", "100", "199", "200"}) {
                taken("a=" + v, 1, 2, 0, Integer.parseInt(v), 0, 1, 0, 0);
                taken("b=7;b=" + v, 2, 2, 1, Integer.parseInt(v), 0, 1, 0, 0);
            }
        });
        Edge.test(11, "OWED of 1 or 2 figures, 20 at most, in CLASS 0, 1, 2 by one to three >", () -> {
            for (String v : new String[] {"0", "00", "1", "01", "9", "09", "10", "19", "20"}) {
                taken("a>b=" + v, 1, 2, 0, 0, 0, 1, 0, Integer.parseInt(v));
                taken("b>>a=" + v, 1, 2, 0, 0, 1, 0, 1, Integer.parseInt(v));
                taken("a>>>b=7;a>>>b=" + v, 2, 2, 0, 0, 0, 1, 2, Integer.parseInt(v));
            }
        });
        Edge.test(11, "the letters of all HOUSES, the last too", () -> {
            for (int n = 2; n <= 5; n++) {
                char last = (char) ('a' + n - 1);
                taken(last + "=7", 1, n, n - 1, 7, 0, 1, 0, 0);
                taken(last + ">a=7", 1, n, 0, 0, n - 1, 0, 0, 7);
                taken("a>>>" + last + "=7", 1, n, 0, 0, 0, n - 1, 2, 7);
            }
        });
        Edge.test(11, "done in turn: what is told last stands", () -> {
            taken("a=5;a=6;a=4", 3, 2, 0, 4, 0, 1, 0, 0);
            taken("a>b=5;b>a=1;a>b=3;a=2", 4, 2, 0, 2, 0, 1, 0, 3);
        });
        Edge.test(11, "with 120 bytes, as many as THE TAPE holds", () -> {
            String cash = "a=1;".repeat(29) + "a=22";
            String owed = "a>>>b=1;".repeat(14) + "b>>>a=20";
            length(cash);
            length(owed);
            taken(cash, 30, 2, 0, 22, 0, 1, 0, 0);
            taken(owed, 15, 2, 0, 0, 1, 0, 2, 20);
        });
        Edge.test(11, "what isn't told by the text stays: COSTS, UNITS, other debts, ROWS, THE PAPER, THE IMAGE", () -> {
            ClearingWaves x = Edge.full();
            ClearingWaves y = Edge.full();
            x.clear();
            y.clear();
            y.cash(1, 9);
            y.owe(2, 0, 2, 20);
            Edge.due("read", Edge.read(x, "b=9;c>>>a=20"), 2);
            Edge.same("all that is seen", Edge.look(x), Edge.look(y));
        });
        Edge.test(11, "THE CLEARING and coins are by what was read, and as they were by a text with a FAULT", () -> {
            ClearingWaves x = Edge.told(2, 10, 10, "a=5;a>b=5");
            Edge.due("holds", x.fails() + x.coinFails(), 0);
            Edge.due("a text with a fault in its last part", Edge.read(x, "a=4;b=201"), -106);
            Edge.due("holds", x.fails() + x.coinFails(), 0);
            Edge.due("a text", Edge.read(x, "a=4;b=200"), 2);
            Edge.due("fails", x.fails(), 1);
            Edge.due("in coins", x.coinFails(), 1);
        });
    }

    public static void main(String[] args) {
        newObject();
        houses();
        cash();
        owe();
        costs();
        cede();
        settle();
        feed();
        clear();
        reads();
        empties();
        texts();
        Edge.end();
    }
}
