/** Promises 39 to 48: the edges of rings, funds, THE PAPER and what is counted. */
public final class FundsEdgeTest {
    private static final int NONE = Edge.NONE, BAD = Edge.BAD, STATE = Edge.STATE, OVER = Edge.OVER;
    private static final int NOT_SO = Edge.NOT_SO;
    private static final long NO = Edge.NO, MOST = Edge.MOST_UNITS;

    private static String ring(ClearingWaves x, int cls) {
        StringBuilder text = new StringBuilder();
        for (int k = 0; k < 5; k++) {
            text.append(k > 0 ? " " : "").append(x.ring(cls, k));
        }
        return text.toString();
    }

    private static void firstRing(String what, int n, String debts, String want) {
        Edge.same(what, ring(Edge.told(n, 10, 10, debts), 0), want);
    }

    private static void rings() {
        Edge.test(39, "-5: there is no RING, or it isn't so long", () -> {
            firstRing("no debts", 2, "", "-5 -5 -5 -5 -5");
            firstRing("no way back", 5, "a>b=1;b>c=1;c>d=1;d>e=1;a>e=1", "-5 -5 -5 -5 -5");
            firstRing("the way back is of another class", 3, "a>b=5;b>>a=5", "-5 -5 -5 -5 -5");
            firstRing("two", 2, "a>b=1;b>a=1", "0 1 -5 -5 -5");
            firstRing("two, the last", 5, "e>d=1;d>e=1", "3 4 -5 -5 -5");
            firstRing("three", 5, "a>c=1;c>e=20;e>a=1", "0 2 4 -5 -5");
            firstRing("four", 5, "b>e=1;e>d=1;d>c=1;c>b=1", "1 4 3 2 -5");
            firstRing("five", 5, "a>e=1;e>d=1;d>c=1;c>b=1;b>a=1", "0 4 3 2 1");
        });
        Edge.test(39, "each owes the next something: 1 is enough, 0 isn't", () -> {
            ClearingWaves x = Edge.told(2, 10, 10, "a>b=1;b>a=1");
            Edge.due("1", x.ring(0, 0), 0);
            x.owe(1, 0, 0, 0);
            Edge.due("0", x.ring(0, 0), NOT_SO);
        });
        Edge.test(39, "the first: place by place with the least HOUSE; one that ends is ahead of one that goes on", () -> {
            firstRing("begun with the least", 5, "b>c=1;c>b=1;d>a=1;a>d=1", "0 3 -5 -5 -5");
            firstRing("the second place", 4, "a>d=1;d>a=1;a>c=1;c>a=1", "0 2 -5 -5 -5");
            firstRing("the second place, though longer", 4, "a>b=1;b>c=1;c>d=1;d>a=1;a>d=1", "0 1 2 3 -5");
            firstRing("it ends", 3, "a>b=1;b>a=1;b>c=1;c>a=1", "0 1 -5 -5 -5");
            firstRing("it ends in the third place", 4, "a>b=1;b>c=1;c>a=1;c>d=1;d>a=1", "0 1 2 -5 -5");
            firstRing("unlike houses: not 0 1 2 1 3", 4, "a>b=1;b>c=1;c>b=1;b>d=1;d>a=1", "0 1 3 -5 -5");
            firstRing("a way that leads nowhere", 4, "a>b=1;b>c=1;a>d=1;d>a=1", "0 3 -5 -5 -5");
            firstRing("a way that leads to a ring without the first", 4, "a>b=1;b>c=1;c>b=1", "1 2 -5 -5 -5");
        });
        Edge.test(39, "of each CLASS by itself", () -> {
            ClearingWaves x = Edge.told(3, 10, 10, "a>b=1;b>a=1;a>>c=1;c>>a=1;b>>>c=1;c>>>b=1");
            Edge.same("class 0", ring(x, 0), "0 1 -5 -5 -5");
            Edge.same("class 1", ring(x, 1), "0 2 -5 -5 -5");
            Edge.same("class 2", ring(x, 2), "1 2 -5 -5 -5");
        });
        Edge.outside(39, "cls", 3, NONE, (x, v) -> x.ring(v, 0));
        Edge.outside(39, "k", 5, NONE, (x, v) -> x.ring(0, v));
        Edge.refused(39, "k 5 where there is no RING: NONE, not -5,", NONE, x -> x.ring(1, 5));
        Edge.refused(39, "k 0 of CLASS 3: NONE, not -5,", NONE, x -> x.ring(3, 0));
        Edge.asked(39, "ring", x -> x.ring(0, 0));
    }

    private static void net() {
        Edge.test(40, "no RING: 0, and nothing is changed", () -> {
            ClearingWaves x = Edge.full();
            for (int cls = 0; cls < 3; cls++) {
                Edge.due("class " + cls, x.net(cls), 0);
            }
            Edge.same("all that is seen then", Edge.look(x), Edge.look(Edge.full()));
        });
        Edge.test(40, "the least of what the first RING's HOUSES owe, until there is no RING", () -> {
            ClearingWaves x = Edge.told(3, 10, 10, "a>b=5;b>a=3;b>c=9;c>a=4;a>>b=2;b>>a=2");
            Edge.due("3 and 3, then 2 and 2 and 2", x.net(0), 12);
            Edge.due("a to b", x.owed(0, 1, 0), 0);
            Edge.due("b to a", x.owed(1, 0, 0), 0);
            Edge.due("b to c", x.owed(1, 2, 0), 7);
            Edge.due("c to a", x.owed(2, 0, 0), 2);
            Edge.due("no ring any more", x.ring(0, 0), NOT_SO);
            Edge.due("again", x.net(0), 0);
            Edge.due("class 1 is as it was", x.owed(0, 1, 1) + x.owed(1, 0, 1), 4);
        });
        Edge.test(40, "1 and 1 is the least that is taken off, 400 the most", () -> {
            Edge.due("1 and 1", Edge.told(2, 10, 10, "a>b=1;b>a=20").net(0), 2);
            ClearingWaves x = Edge.told(5, 10, 10, "");
            for (int k = 0; k < 75; k++) {
                x.owe(k / 15, k / 3 % 5, k % 3, 20);
            }
            Edge.due("all debts of 20", x.net(1), 400);
            Edge.due("nothing is left of them", x.count(7), 40);
            for (int k = 0; k < 25; k++) {
                if (k / 5 != k % 5) {
                    Edge.due("class 0", x.owed(k / 5, k % 5, 0), 20);
                    Edge.due("class 1", x.owed(k / 5, k % 5, 1), 0);
                    Edge.due("class 2", x.owed(k / 5, k % 5, 2), 20);
                }
            }
        });
        Edge.test(40, "sixteen RINGS of two, three, four and five, one behind the other", () -> {
            ClearingWaves x = Edge.told(5, 10, 10, "a>b=5;a>c=17;a>d=19;a>e=18;b>a=14;b>c=10;b>d=6;b>e=12;c>a=16;c>b=13;"
                + "c>d=12;c>e=4;d>a=6;d>b=7;d>c=11;d>e=18;e>a=7;e>b=20;e>c=13;e>d=12");
            Edge.due("taken off", x.net(0), 208);
            Edge.due("a to e", x.owed(0, 4, 0), 16);
            Edge.due("e to b", x.owed(4, 1, 0), 3);
            Edge.due("e to c", x.owed(4, 2, 0), 6);
            Edge.due("e to d", x.owed(4, 3, 0), 7);
            Edge.due("no more", x.count(7), 4);
            Edge.due("no ring", x.ring(0, 0), NOT_SO);
        });
        Edge.test(40, "a RING of five", () -> {
            ClearingWaves x = Edge.told(5, 10, 10, "a>>>e=5;e>>>d=20;d>>>c=6;c>>>b=5;b>>>a=19");
            Edge.due("5 of each", x.net(2), 25);
            Edge.due("e to d", x.owed(4, 3, 2), 15);
            Edge.due("how many are owed", x.count(7), 3);
        });
        Edge.test(40, "THE CLEARING and coins are by what is OWED then", () -> {
            ClearingWaves x = Edge.told(3, 10, 10, "a>b=5;b>a=5;a>c=1;b>c=1;a=1");
            Edge.due("b fails", x.fails(), 3);
            Edge.due("in coins", x.coinFails(), 3);
            Edge.due("net", x.net(0), 10);
            Edge.due("b still", x.fails(), 2);
            Edge.due("in coins", x.coinFails(), 2);
        });
        Edge.outside(40, "cls", 3, NONE, (x, v) -> x.net(v));
        Edge.refused(40, "CLASS 3", x -> Edge.tell(x, "a>b=5;b>a=5"), NONE, x -> x.net(3));
    }

    private static void units() {
        Edge.test(41, "UNITS are 0 .. 10^12: 0 is the least, 10^12 the greatest that is taken", () -> {
            ClearingWaves x = new ClearingWaves();
            Edge.due("to 10^12", x.units(0, 0, 0, MOST), 0);
            Edge.due("it is", x.unitsOf(0, 0, 0), MOST);
            Edge.due("to 0", x.units(0, 0, 0, 0), MOST);
            Edge.due("it is", x.unitsOf(0, 0, 0), 0);
            Edge.due("to 1", x.units(0, 0, 0, 1), 0);
            Edge.due("to 10^12 less 1", x.units(0, 0, 0, MOST - 1), 1);
            Edge.due("to what no int holds", x.units(0, 0, 0, 1L << 32), MOST - 1);
            Edge.due("it is", x.units(0, 0, 0, 2), 1L << 32);
        });
        long[] wrong = {-1, MOST + 1, -MOST, Long.MIN_VALUE, Long.MIN_VALUE + 1, Long.MAX_VALUE, Long.MAX_VALUE - 1, -2,
            1L << 40, (1L << 40) + 5, 1L << 62, -(1L << 32), -(1L << 32) + 7, Integer.MIN_VALUE, MOST * 2};
        for (long u : wrong) {
            Edge.refused(41, "UNITS " + u, BAD, x -> x.units(0, 0, 0, u));
        }
        Edge.outside(41, "fund", 3, NONE, (x, v) -> x.units(v, 0, 0, 5));
        Edge.outside(41, "house", 3, NONE, (x, v) -> x.units(0, v, 0, 5));
        Edge.outside(41, "cls", 3, NONE, (x, v) -> x.units(0, 0, v, 5));
        Edge.refused(41, "no such fund and UNITS too great: NONE first,", NONE, x -> x.units(3, 0, 0, MOST + 1));
        Edge.refused(41, "no such HOUSE and UNITS below 0: NONE first,", NONE, x -> x.units(0, 3, 0, -1));
        Edge.refused(41, "no such CLASS and UNITS below 0: NONE first,", NONE, x -> x.units(0, 0, -1, NO));
        Edge.test(41, "each FUND, HOUSE and CLASS has UNITS of its own, the first and the last too", () -> {
            ClearingWaves x = Edge.told(5, 10, 10, "");
            for (int k = 0; k < 45; k++) {
                Edge.due("were " + k, x.units(k / 15, k / 3 % 5, k % 3, 1000 + k), 0);
            }
            for (int k = 0; k < 45; k++) {
                Edge.due("units " + k, x.unitsOf(k / 15, k / 3 % 5, k % 3), 1000 + k);
            }
        });
        Edge.outside(42, "fund", 3, NO, (x, v) -> x.unitsOf(v, 0, 0));
        Edge.outside(42, "house", 3, NO, (x, v) -> x.unitsOf(0, v, 0));
        Edge.outside(42, "cls", 3, NO, (x, v) -> x.unitsOf(0, 0, v));
        Edge.asked(42, "unitsOf", x -> x.unitsOf(0, 0, 0));
    }

    private static void worth(String what, ClearingWaves x, int fund, long above, long below) {
        Edge.due(what + " can be told", x.told(fund), 1);
        Edge.fraction(what, x.fund(fund, 0), x.fund(fund, 1), above, below);
    }

    private static void isBeyond(String what, ClearingWaves x, int fund) {
        Edge.due(what + " can't be told", x.told(fund), OVER);
        Edge.due(what + " above", x.fund(fund, 0), NO);
        Edge.due(what + " below", x.fund(fund, 1), NO);
    }

    /** PART of b in CLASS 0: 834453909 by 3099323674; of d 372658725 by the same; of a in CLASS 2: 1. */
    private static ClearingWaves five() {
        return Edge.told(5, 9, 6, "a=5;b=4;c=9;d=3;e=3;a>b=18;a>c=2;b>a=17;b>d=19;b>e=13;c>a=18;c>d=2;d>a=15;d>b=12;"
            + "d>c=12;d>e=16;e>a=11;e>c=18;e>d=1;a>>b=12;b>>c=14;c>>d=16;d>>e=17;e>>a=19");
    }

    private static void funds() {
        Edge.test(43, "0 by 1 without UNITS, at first, and when they are taken away", () -> {
            ClearingWaves x = Edge.told(2, 10, 10, "a=1;a>b=3");
            Edge.fraction("at first", x.fund(2, 0), x.fund(2, 1), 0, 1);
            x.units(2, 0, 0, 1);
            worth("one", x, 2, 1, 3);
            x.units(2, 0, 0, 0);
            Edge.fraction("none again", x.fund(2, 0), x.fund(2, 1), 0, 1);
            Edge.fraction("another fund", x.fund(0, 0), x.fund(0, 1), 0, 1);
        });
        Edge.test(43, "a UNIT is worth the PART in THE CLEARING: 0, in part, 1 of a CLASS with DUE 0", () -> {
            ClearingWaves x = Edge.told(2, 10, 10, "a=7;a>b=4;a>>b=6;a>>>b=5");
            x.units(0, 0, 2, MOST);
            worth("10^12 of nothing", x, 0, 0, 1);
            x.units(0, 0, 1, 3);
            worth("and 3 halves", x, 0, 3, 2);
            x.units(0, 0, 0, 1);
            worth("and 1", x, 0, 5, 2);
            x.units(0, 1, 2, MOST);
            worth("and 10^12 of a class with nothing due", x, 0, 2 * MOST + 5, 2);
            x.units(0, 0, 1, 4);
            worth("in lowest terms", x, 0, MOST + 3, 1);
        });
        Edge.test(43, "all UNITS of 10^12: 15 * 10^12", () -> {
            ClearingWaves x = Edge.told(5, 10, 10, "");
            for (int k = 0; k < 15; k++) {
                x.units(1, k / 3, k % 3, MOST);
            }
            worth("all", x, 1, 15 * MOST, 1);
        });
        Edge.outside(43, "fund", 3, NO, (x, v) -> x.fund(v, 0));
        Edge.outside(43, "which", 2, NO, (x, v) -> x.fund(2, v));
        Edge.test(43, "which 0 and 1 alone, without UNITS, too", () -> {
            ClearingWaves x = new ClearingWaves();
            Edge.due("above", x.fund(2, 0), 0);
            Edge.due("below", x.fund(2, 1), 1);
            for (int which : new int[] {-1, 2, Edge.MIN, Edge.MAX}) {
                Edge.due("which " + which, x.fund(2, which), NO);
            }
        });
        Edge.asked(43, "fund", x -> x.fund(0, 1));
        Edge.outside(44, "fund", 3, NONE, (x, v) -> x.told(v));
        Edge.refused(44, "a FUND without UNITS", x -> x.units(1, 1, 2, 0), STATE, x -> x.told(1));
        Edge.test(44, "STATE without UNITS, 1 with UNITS that are worth nothing", () -> {
            ClearingWaves x = Edge.told(2, 10, 10, "a>>b=1");
            Edge.due("none", x.told(0), STATE);
            x.units(0, 0, 1, 1);
            Edge.due("one of nothing", x.told(0), 1);
            x.units(0, 0, 1, MOST);
            Edge.due("10^12 of nothing", x.told(0), 1);
            x.units(0, 0, 1, 0);
            Edge.due("none again", x.told(0), STATE);
        });
        Edge.asked(44, "told", x -> x.told(2));
    }

    private static void beyond() {
        Edge.test(44, "u c: the last that a long holds and the first that it doesn't", () -> {
            ClearingWaves x = five();
            x.units(0, 1, 0, 11053183330L);
            worth("the last", x, 0, 11053183330L * 834453909L / 2, 1549661837L);
            x.units(0, 1, 0, 11053183331L);
            isBeyond("the first", x, 0);
            x.units(0, 1, 0, 22106366661L);
            isBeyond("one that is above 0 again, when it wraps around,", x, 0);
            x.units(0, 1, 0, MOST);
            isBeyond("10^12", x, 0);
        });
        Edge.test(44, "u c b: where u c is far from the end", () -> {
            ClearingWaves x = Edge.told(3, 10, 8, "a=1;b=2;c=2;a>b=6;a>c=12;b>>a=15;b>>c=2;c>>a=10;c>>b=11");
            x.units(2, 0, 0, 1);
            x.units(2, 1, 1, 29028524369L);
            worth("the last", x, 2, 857270381699201L, 64554);
            x.units(2, 1, 1, 29028524370L);
            isBeyond("the first", x, 2);
            x.units(2, 1, 1, 58057048740L);
            isBeyond("twice as much", x, 2);
        });
        Edge.test(44, "a d: where u c b is far from the end", () -> {
            ClearingWaves x = five();
            x.units(1, 0, 2, 2975930559L);
            x.units(1, 1, 0, 1);
            worth("the last", x, 1, 2975930559L * 3099323674L + 834453909L, 3099323674L);
            x.units(1, 0, 2, 2975930561L);
            isBeyond("the first", x, 1);
            x.units(1, 0, 2, 5951861121L);
            isBeyond("one that is above 0 again, when it wraps around,", x, 1);
        });
        Edge.test(44, "added up: the end of a long itself, and one more", () -> {
            ClearingWaves x = five();
            x.units(0, 0, 2, 2764494817L);
            x.units(0, 1, 0, 785313361L);
            worth("2^63 less 1", x, 0, Long.MAX_VALUE, 3099323674L);
            x.units(0, 0, 2, 2895442091L);
            x.units(0, 1, 0, 298949786L);
            isBeyond("2^63", x, 0);
        });
        Edge.test(44, "b d: where all above the line is far from the end", () -> {
            ClearingWaves x = Edge.told(5, 8, 9, "a=4;b=8;c=8;d=3;e=2;a>c=3;a>d=10;b>a=18;b>c=8;b>e=6;c>a=20;c>b=11;c>d=3;"
                + "d>a=17;d>b=7;d>e=17;e>a=3;e>c=11;e>d=19;a>>b=13;b>>c=16;c>>d=18;d>>e=14;e>>a=18");
            x.units(0, 2, 0, 1);
            x.units(0, 4, 0, 1);
            worth("9189269786720228547 fits", x, 0, 5120320454L, 5250505629L);
            ClearingWaves y = Edge.told(5, 9, 9, "a=4;b=5;c=2;d=1;e=3;a>b=2;a>d=9;b>a=13;b>c=10;b>d=3;b>e=15;c>a=12;c>b=9;"
                + "c>d=16;d>a=3;d>b=19;d>c=12;d>e=8;e>a=14;e>b=10;e>c=7;a>>b=11;b>>c=16;c>>d=15;d>>e=13;e>>a=13");
            y.units(0, 2, 0, 1);
            y.units(0, 4, 0, 1);
            isBeyond("9261290478787708928", y, 0);
            ClearingWaves z = Edge.told(5, 6, 7, "a=6;b=7;c=1;d=9;e=5;a>b=16;a>c=1;a>d=20;a>e=7;b>a=20;b>c=11;b>d=11;"
                + "b>e=12;c>b=6;c>d=11;c>e=19;d>b=2;e>b=16;e>c=17;e>d=19;a>>b=19;b>>c=14;c>>d=18;d>>e=13;e>>a=17");
            z.units(0, 0, 0, 1);
            z.units(0, 2, 0, 1);
            isBeyond("18884070359994108025, above 0 again, when it wraps around,", z, 0);
        });
        Edge.test(43, "PARTS are in lowest terms: 10^12 of a whole one, though others have great numbers below", () -> {
            ClearingWaves x = five();
            x.units(0, 0, 2, MOST);
            worth("10^12", x, 0, MOST, 1);
            x.units(0, 3, 2, MOST);
            worth("twice", x, 0, 2 * MOST, 1);
        });
        Edge.test(43, "in lowest terms each time, HOUSE by HOUSE, CLASS by CLASS: in another turn it is BEYOND", () -> {
            ClearingWaves x = Edge.told(3, 10, 7, "a=1;b=2;c=3;a>>b=16;a>>c=4;b>a=20;b>>c=18;c>a=1;c>>b=14");
            x.units(0, 0, 1, 5);
            x.units(0, 1, 0, 9);
            x.units(0, 1, 2, 1);
            x.units(0, 2, 0, MOST);
            worth("340 by 899, 7531 by 17980, 1, 1", x, 0, 17980000000119759L, 17980);
        });
        Edge.test(44, "HOUSE by HOUSE, CLASS by CLASS: in another turn it could be told", () -> {
            ClearingWaves x = Edge.told(3, 10, 7, "a=2;b=2;c=3;a>>b=14;a>>c=10;b>a=11;b>>c=11;c>a=3;c>>b=12");
            x.units(0, 0, 0, 8);
            x.units(0, 0, 1, 1);
            x.units(0, 0, 2, MOST);
            x.units(0, 2, 1, MOST);
            isBeyond("1, 550 by 1371, 1, 1925 by 8226", x, 0);
        });
    }

    private static void best() {
        Edge.test(45, "-5: none has UNITS and a WORTH that can be told", () -> {
            ClearingWaves x = five();
            Edge.due("no units", x.best(), NOT_SO);
            for (int fund = 0; fund < 3; fund++) {
                x.units(fund, 1, 0, MOST);
                isBeyond("fund " + fund, x, fund);
                Edge.due("beyond", x.best(), NOT_SO);
            }
            x.units(1, 1, 0, 0);
            Edge.due("one has no units any more", x.best(), NOT_SO);
            x.units(1, 1, 0, 1);
            Edge.due("one can be told", x.best(), 1);
        });
        Edge.test(45, "one with UNITS that are worth nothing is ahead of one without UNITS", () -> {
            ClearingWaves x = Edge.told(2, 10, 10, "a>b=1");
            x.units(2, 0, 0, 5);
            Edge.due("the last", x.best(), 2);
            x.units(1, 0, 0, 9);
            Edge.due("of several the least", x.best(), 1);
            x.units(0, 1, 0, 1);
            Edge.due("1 is greater than 0", x.best(), 0);
        });
        Edge.test(45, "WORTHS of the same whole part, the first or the second of them without more", () -> {
            ClearingWaves x = Edge.told(4, 10, 10, "a=1;a>d=2;b=3;b>d=7;c=1;c>d=3");
            x.units(0, 0, 1, 1);
            x.units(1, 0, 0, 3);
            Edge.due("1 and 3 by 2", x.best(), 1);
            x.units(2, 0, 1, 2);
            Edge.due("and 2", x.best(), 2);
            x.units(1, 0, 0, 5);
            Edge.due("1, 5 by 2, 2", x.best(), 1);
            ClearingWaves y = Edge.told(4, 10, 10, "a=1;a>d=2;b=3;b>d=7;c=1;c>d=3");
            y.units(0, 1, 0, 1);
            y.units(1, 0, 0, 1);
            Edge.due("3 by 7 and 1 by 2", y.best(), 1);
            y.units(2, 1, 0, 1);
            y.units(1, 2, 0, 1);
            y.units(1, 0, 0, 0);
            Edge.due("3 by 7, 1 by 3, 3 by 7", y.best(), 0);
        });
        Edge.test(45, "a WORTH of 0 by 1 is less than any other", () -> {
            ClearingWaves x = five();
            x.units(0, 0, 1, 5);
            Edge.due("nothing", x.best(), 0);
            x.units(1, 3, 0, 1);
            Edge.due("372658725 by 3099323674", x.best(), 1);
        });
        Edge.test(45, "of several the least, though told by other UNITS", () -> {
            ClearingWaves x = Edge.told(2, 10, 10, "a=1;a>b=2");
            x.units(2, 1, 0, 3);
            x.units(1, 0, 0, 6);
            Edge.due("3 and 6 halves", x.best(), 1);
            x.units(0, 0, 0, 4);
            x.units(0, 0, 1, 1);
            Edge.due("and 4 halves and 1", x.best(), 0);
            x.units(2, 1, 0, 4);
            Edge.due("4", x.best(), 2);
        });
        Edge.test(45, "WORTHS whose products across would be beyond a long, and that differ by 1 by 3099323674", () -> {
            ClearingWaves x = five();
            x.units(0, 0, 2, 703506635L);
            x.units(1, 1, 0, 2612960099L);
            worth("just more", x, 1, 703506635L * 3099323674L + 1, 3099323674L);
            Edge.due("just more", x.best(), 1);
            x.units(0, 0, 2, 130947274L);
            x.units(1, 1, 0, 486363575L);
            worth("just less", x, 1, 130947274L * 3099323674L - 1, 3099323674L);
            Edge.due("just less", x.best(), 0);
        });
        Edge.test(45, "great WORTHS that are alike", () -> {
            ClearingWaves x = five();
            x.units(0, 3, 0, 834453909L * 20);
            x.units(2, 1, 0, 372658725L * 20);
            Edge.due("alike", x.best(), 0);
            x.units(2, 1, 0, 372658725L * 20 + 1);
            Edge.due("one unit more", x.best(), 2);
        });
        Edge.asked(45, "best", x -> x.best());
    }

    private static void spell() {
        Edge.test(46, "empty, if none FAILS, though THE PAPER held something", () -> {
            ClearingWaves x = Edge.full();
            Edge.due("two fail", x.spell(), 19);
            Edge.same("text", Edge.page(x), "a1:47/10 b2:523/100");
            x.cash(0, 200);
            x.owe(0, 1, 0, 20);
            Edge.due("none fails", x.spell(), 0);
            Edge.due("bytes", x.count(6), 0);
            Edge.due("byte 0", x.paper(0), NONE);
        });
        Edge.test(46, "one HOUSE alone: no blank; nothing PAID is 0; below 1 no /", () -> {
            ClearingWaves x = Edge.told(2, 10, 10, "b>a=1");
            Edge.due("bytes", x.spell(), 4);
            Edge.same("nothing", Edge.page(x), "b1:0");
            x.cash(1, 20);
            x.owe(1, 0, 1, 20);
            Edge.due("bytes", x.spell(), 5);
            Edge.same("whole coins", Edge.page(x), "b1:20");
        });
        Edge.test(46, "all CLASSES added up, by WAVES and then by numbers", () -> {
            ClearingWaves x = Edge.told(5, 10, 10, "e=7;e>a=4;e>>a=6;e>>>a=5;b>a=1;a>d=16;d>c=16");
            Edge.due("bytes", x.spell(), 19);
            Edge.same("text", Edge.page(x), "b1:0 e1:7 a2:7 d3:7");
        });
        Edge.test(46, "five HOUSES with the greatest numbers that were found", () -> {
            ClearingWaves x = Edge.told(5, 10, 3, "a=13;b=13;c=7;d=11;e=13;a>b=19;a>>b=19;a>>>b=6;a>c=17;a>>c=1;a>>>c=11;"
                + "a>d=7;a>>d=12;a>>>d=18;a>e=18;a>>e=7;a>>>e=7;b>a=14;b>>a=2;b>>>a=15;b>c=18;b>>c=15;b>>>c=18;b>d=18;"
                + "b>>d=20;b>>>d=13;b>e=17;b>>e=14;b>>>e=17;c>a=20;c>>a=10;c>>>a=8;c>b=19;c>>b=2;c>>>b=9;c>d=12");
            Edge.tell(x, "c>>>d=2;c>e=20;c>>e=9;c>>>e=8;d>a=13;d>>a=20;d>>>a=9;d>b=20;d>>b=12;d>>>b=17;d>c=14;d>>c=15;"
                + "d>>>c=19;d>e=20;d>>e=3;d>>>e=6;e>a=15;e>>a=16;e>>>a=6;e>b=20;e>>b=20;e>>>b=20;e>c=17;e>>c=9;"
                + "e>>>c=8;e>d=6;e>>d=15;e>>>d=18");
            Edge.due("bytes", x.spell(), 179);
            Edge.same("text", Edge.page(x), "d1:1508861346480730/105366774617741 e1:1930108003473560/105366774617741 "
                + "a2:1842802745685410/105366774617741 b2:1982380351388210/105366774617741 c2:1315713486131000/105366774617741");
        });
        Edge.test(46, "nothing else is changed", () -> {
            ClearingWaves x = Edge.full();
            Edge.due("bytes", x.spell(), 19);
            Edge.same("all that is seen then", Edge.look(x), Edge.look(Edge.full()));
        });
        Edge.test(47, "bytes 0 .. length - 1, none ahead and none behind; none of an empty PAPER", () -> {
            ClearingWaves x = new ClearingWaves();
            Edge.due("nothing yet", x.paper(0), NONE);
            ClearingWaves y = Edge.full();
            Edge.due("before the first", y.paper(-1), NONE);
            Edge.due("the first", y.paper(0), 'a');
            Edge.due("the blank", y.paper(8), ' ');
            Edge.due("the last", y.paper(18), '0');
            Edge.due("behind the last", y.paper(19), NONE);
            y.owe(0, 1, 0, 0);
            y.owe(0, 2, 2, 0);
            Edge.due("a shorter one", y.spell(), 4);
            Edge.due("the last", y.paper(3), '1');
            Edge.due("what was behind it before", y.paper(4), NONE);
        });
        Edge.outside(47, "i", 19, NONE, (x, v) -> x.paper(v));
        Edge.asked(47, "paper", x -> x.paper(3));
    }

    private static void counts() {
        Edge.test(48, "each number that there is, of five HOUSES, and none between and behind them", () -> {
            ClearingWaves x = Edge.told(5, 3, 4, "a=1;b=2;c=3;d=4;e=200;a>b=1;a>>b=2;a>>>b=3;e>d=20;e>>>a=20;e>>>b=20;c>>a=7");
            Edge.feed(x, "a=");
            x.spell();
            long[] due = {5, 3, 4, 210, 73, 2, Edge.page(x).length(), 7, NONE, NONE, 1, 2, 3, 4, 200, NONE, NONE, NONE, NONE,
                NONE, 1, 2, 3, 0, 0, 0, 0, 7, 0, 0, 0, 0, 20, 0, 40, NONE, NONE};
            for (int what = 0; what < due.length; what++) {
                Edge.due("count " + what, x.count(what), due[what]);
            }
        });
        Edge.test(48, "no such HOUSE: of n HOUSES the CASH and the DUE of just n", () -> {
            for (int n = 2; n <= 5; n++) {
                ClearingWaves x = Edge.told(n, 10, 10, "");
                for (int house = 0; house < 5; house++) {
                    Edge.due("cash of " + house, x.count(10 + house), house < n ? 0 : NONE);
                    for (int cls = 0; cls < 3; cls++) {
                        Edge.due("due of " + house, x.count(20 + 3 * house + cls), house < n ? 0 : NONE);
                    }
                }
            }
        });
        Edge.test(48, "the most of each: 1000 coins, 1200 due, 60 debts, 120 bytes", () -> {
            ClearingWaves x = Edge.told(5, 10, 10, "a=200;b=200;c=200;d=200;e=200");
            for (int k = 0; k < 75; k++) {
                x.owe(k / 15, k / 3 % 5, k % 3, 20);
            }
            Edge.feed(x, "a".repeat(121));
            Edge.due("cash", x.count(3), 1000);
            Edge.due("due", x.count(4), 1200);
            Edge.due("tape", x.count(5), 120);
            Edge.due("debts", x.count(7), 60);
            Edge.due("due of one in a class", x.count(34), 80);
        });
        Edge.outside(48, "what", 35, NONE, (x, v) -> x.count(v));
        for (int what : new int[] {8, 9, 13, 14, 15, 19, 29, 34}) {
            Edge.refused(48, "what " + what + " of three HOUSES", NONE, x -> x.count(what));
        }
        Edge.asked(48, "count", x -> x.count(22));
    }

    public static void main(String[] args) {
        rings();
        net();
        units();
        funds();
        beyond();
        best();
        spell();
        counts();
        Edge.end();
    }
}
