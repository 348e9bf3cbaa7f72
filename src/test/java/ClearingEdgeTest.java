/** Promises 12 to 27: the edges of waves, PARTS, what houses get, have, lack and lose, and of causes. */
public final class ClearingEdgeTest {
    private static final int NONE = Edge.NONE, STATE = Edge.STATE, NOT_SO = Edge.NOT_SO;
    private static final long NO = Edge.NO;

    /** Each falls a wave behind the one before it; all of them pay nothing then. */
    private static ClearingWaves fiveWaves() {
        return Edge.told(5, 10, 5, "a>b=4;b>c=4;c>d=4;d>e=4;e>a=2");
    }

    private static void part(String what, ClearingWaves x, int house, int cls, long above, long below) {
        Edge.fraction(what, x.part(house, cls, 0), x.part(house, cls, 1), above, below);
    }

    /** The three PARTS of a HOUSE, as "a/b c/d e/f". */
    private static String parts(ClearingWaves x, int house) {
        StringBuilder text = new StringBuilder();
        for (int cls = 0; cls < 3; cls++) {
            text.append(cls > 0 ? " " : "").append(x.part(house, cls, 0)).append('/').append(x.part(house, cls, 1));
        }
        return text.toString();
    }

    private static void waves() {
        Edge.test(12, "no HOUSE FAILS: ROUND 0 is THE CLEARING", () -> {
            Edge.due("no debts", Edge.told(5, 10, 10, "").waves(), 0);
            ClearingWaves x = Edge.told(5, 0, 0, "a=7;a>b=3;a>>c=4;b>c=3;e>d=1;d>e=1");
            Edge.due("each has enough", x.waves(), 0);
            Edge.due("fails", x.fails(), 0);
            Edge.due("round 1", x.partIn(1, 0, 0, 0), NO);
        });
        Edge.test(12, "a WORTH that is just the DUE in all isn't below it; one less is", () -> {
            Edge.due("5 for 5", Edge.told(2, 10, 10, "a=5;a>b=5").waves(), 0);
            Edge.due("4 for 5", Edge.told(2, 10, 10, "a=4;a>b=5").waves(), 1);
            Edge.due("0 for 0", Edge.told(2, 10, 10, "b=9").waves(), 0);
            Edge.due("0 for 1", Edge.told(2, 10, 10, "a>>>b=1").waves(), 1);
            Edge.due("5 for 2, 2, 1", Edge.told(2, 10, 10, "a=5;a>b=2;a>>b=2;a>>>b=1").waves(), 0);
            Edge.due("5 for 2, 2, 2", Edge.told(2, 10, 10, "a=5;a>b=2;a>>b=2;a>>>b=2").waves(), 1);
            Edge.due("2 and 3 for 5", Edge.told(3, 0, 0, "a=3;a>b=3;b=2;b>c=5").waves(), 0);
            Edge.due("2 and 3 for 6", Edge.told(3, 0, 0, "a=3;a>b=3;b=2;b>c=6").waves(), 1);
        });
        Edge.test(12, "just the DUE by fractions: 1 by 3 and 2 by 3 for 1 hold, 1 by 3 and 1 by 2 don't", () -> {
            ClearingWaves x = Edge.told(4, 10, 10, "a=1;a>c=1;a>d=2;b=2;b>c=1;b>d=2;c>d=1");
            Edge.due("waves", x.waves(), 1);
            Edge.due("fails", x.fails(), 3);
            Edge.fraction("worth", x.worthIn(1, 2, 0), x.worthIn(1, 2, 1), 1, 1);
            x.owe(1, 3, 0, 3);
            Edge.due("waves", x.waves(), 2);
            Edge.due("fails", x.fails(), 7);
            Edge.fraction("worth", x.worthIn(1, 2, 0), x.worthIn(1, 2, 1), 5, 6);
        });
        Edge.test(12, "five WAVES, the most that five HOUSES can have", () -> Edge.due("waves", fiveWaves().waves(), 5));
        Edge.asked(12, "waves", x -> x.waves());
        Edge.test(13, "0 of one that HOLDS, 1 and 5 of those that FAIL first and last", () -> {
            ClearingWaves x = fiveWaves();
            for (int house = 0; house < 5; house++) {
                Edge.due("wave of " + house, x.wave(house), house + 1);
            }
            ClearingWaves y = Edge.full();
            Edge.due("a", y.wave(0), 1);
            Edge.due("b", y.wave(1), 2);
            Edge.due("c holds", y.wave(2), 0);
        });
        Edge.test(13, "four in WAVE 1, the last one HOLDS or FAILS in WAVE 2", () -> {
            ClearingWaves x = Edge.told(5, 10, 10, "a>e=5;b>e=5;c>e=5;d>e=5;e>a=1");
            Edge.due("e gets 1 from a, for 1", x.wave(4), 0);
            Edge.due("fails", x.fails(), 15);
            x.costs(10, 9);
            Edge.due("e gets 9 tenths from a", x.wave(4), 2);
            for (int house = 0; house < 4; house++) {
                Edge.due("wave", x.wave(house), 1);
            }
        });
        Edge.outside(13, "house", 3, NONE, (x, v) -> x.wave(v));
        Edge.asked(13, "wave", x -> x.wave(1));
        Edge.test(14, "none (0), the first (1), the last of five (16), all five (31)", () -> {
            Edge.due("none", new ClearingWaves().fails(), 0);
            Edge.due("the first", Edge.told(5, 10, 10, "a>b=1").fails(), 1);
            Edge.due("the last", Edge.told(5, 10, 10, "e>b=1").fails(), 16);
            Edge.due("all", fiveWaves().fails(), 31);
        });
        Edge.asked(14, "fails", x -> x.fails());
    }

    private static void wholeParts() {
        Edge.test(15, "of a CLASS with DUE 0 the PART is 1: of one that owes nothing", () -> {
            ClearingWaves x = Edge.told(2, 10, 10, "a>b=5");
            Edge.same("b", parts(x, 1), "1/1 1/1 1/1");
        });
        Edge.test(15, "of a CLASS with DUE 0 the PART is 1: ahead, between and behind, though nothing is paid", () -> {
            Edge.same("behind", parts(Edge.told(2, 10, 10, "a>b=5"), 0), "0/1 1/1 1/1");
            Edge.same("on both sides", parts(Edge.told(2, 10, 10, "a>>b=5"), 0), "1/1 0/1 1/1");
            Edge.same("ahead", parts(Edge.told(2, 10, 10, "a>>>b=5"), 0), "1/1 1/1 0/1");
            Edge.same("between", parts(Edge.told(2, 10, 10, "a=5;a>b=5;a>>>b=5"), 0), "1/1 1/1 0/1");
            Edge.same("between, in part", parts(Edge.told(2, 10, 10, "a=3;a>b=5;a>>>b=5"), 0), "3/5 1/1 0/1");
            Edge.same("behind what is paid in part", parts(Edge.told(2, 10, 10, "a=7;a>b=5;a>>b=5"), 0), "1/1 2/5 1/1");
        });
        Edge.test(15, "CLASS 0 first, then 1, then 2: each whole as long as it lasts, then in part, then not at all", () -> {
            String[] due = {"0/1 0/1 0/1", "1/4 0/1 0/1", "2/4 0/1 0/1", "3/4 0/1 0/1", "1/1 0/1 0/1", "1/1 1/6 0/1",
                "1/1 2/6 0/1", "1/1 3/6 0/1", "1/1 4/6 0/1", "1/1 5/6 0/1", "1/1 1/1 0/1", "1/1 1/1 1/5",
                "1/1 1/1 2/5", "1/1 1/1 3/5", "1/1 1/1 4/5", "1/1 1/1 1/1", "1/1 1/1 1/1"};
            ClearingWaves x = Edge.told(2, 10, 10, "a>b=4;a>>b=6;a>>>b=5");
            for (int cash = 0; cash < due.length; cash++) {
                x.cash(0, cash);
                String want = due[cash].replace("2/4", "1/2").replace("2/6", "1/3").replace("3/6", "1/2");
                Edge.same("with " + cash, parts(x, 0), want.replace("4/6", "2/3"));
                Edge.due("fails with " + cash, x.fails(), cash < 15 ? 1 : 0);
            }
        });
        Edge.test(15, "COSTS of 0, 1, 9 and 10 tenths, and tenths that aren't cut", () -> {
            int[] costs = {0, 0, 0, 10, 10, 0, 1, 10, 10, 9, 9, 1, 10, 10};
            long[] due = {0, 1, 3, 20, 9, 20, 39, 200, 117, 200, 21, 50, 3, 5};
            for (int k = 0; k < 7; k++) {
                ClearingWaves x = Edge.told(3, costs[2 * k], costs[2 * k + 1], "a=9;b=3;b>a=3;a>c=20");
                part("by " + costs[2 * k] + " and " + costs[2 * k + 1], x, 0, 0, due[2 * k], due[2 * k + 1]);
            }
            part("half of 7", Edge.told(2, 5, 0, "a=7;a>b=9"), 0, 0, 7, 18);
        });
        Edge.test(15, "one that HOLDS pays all, whatever COSTS are", () -> {
            part("of just enough", Edge.told(2, 0, 0, "a=5;a>b=5"), 0, 0, 1, 1);
            part("one less", Edge.told(2, 0, 0, "a=4;a>b=5"), 0, 0, 0, 1);
        });
    }

    private static void greatestParts() {
        Edge.test(15, "of PARTS that agree the greatest: a RING pays itself whole out of nothing", () -> {
            ClearingWaves x = Edge.told(3, 10, 10, "a>b=10;b>a=10;a>>c=5;b>>c=5");
            Edge.due("both fail", x.fails(), 3);
            Edge.same("a", parts(x, 0), "1/1 0/1 1/1");
            Edge.same("b", parts(x, 1), "1/1 0/1 1/1");
        });
        Edge.test(15, "of PARTS that agree the greatest: a RING of four whose debts aren't alike", () -> {
            ClearingWaves x = Edge.told(5, 0, 10, "a>b=9;b>c=6;c>d=7;d>a=8;a>>e=1;b>>e=1;c>>e=2;d>>e=1");
            Edge.due("fails", x.fails(), 15);
            part("a: the least of the ring, and 1 more that b pays to e", x, 0, 0, 2, 3);
            part("b", x, 1, 0, 1, 1);
            part("c", x, 2, 0, 6, 7);
            part("d", x, 3, 0, 3, 4);
            part("b is left nothing for e", x, 1, 1, 0, 1);
        });
        Edge.test(15, "a RING that loses a tenth, or that leaks, pays nothing", () -> {
            ClearingWaves x = Edge.told(3, 10, 9, "a>b=10;b>a=10;a>>c=5;b>>c=5");
            Edge.same("a", parts(x, 0), "0/1 0/1 1/1");
            ClearingWaves y = Edge.told(3, 10, 10, "a>b=10;b>a=10;a>c=1;b>>c=5");
            Edge.same("a", parts(y, 0), "0/1 1/1 1/1");
            Edge.same("b", parts(y, 1), "0/1 0/1 1/1");
        });
        Edge.test(15, "a RING that loses what it pays in a CLASS ahead pays nothing, or just what comes from others", () -> {
            ClearingWaves x = Edge.told(3, 10, 10, "b>>c=2;c>a=1;c>>>b=2");
            Edge.same("b", parts(x, 1), "1/1 0/1 1/1");
            Edge.same("c", parts(x, 2), "0/1 1/1 0/1");
            ClearingWaves y = Edge.told(3, 10, 10, "a>c=4;c>>a=6;c>b=2");
            Edge.same("a", parts(y, 0), "0/1 1/1 1/1");
            Edge.same("c", parts(y, 2), "0/1 0/1 1/1");
            ClearingWaves z = Edge.told(4, 10, 10, "a>>b=2;a>d=2;b>a=1;b>>a=1;d>>a=1");
            Edge.same("a has 1 from d", parts(z, 0), "1/2 0/1 1/1");
            Edge.same("b", parts(z, 1), "0/1 0/1 1/1");
            ClearingWaves w = Edge.told(3, 10, 9, "a>b=2;a>>c=6;c>a=4");
            Edge.same("a", parts(w, 0), "0/1 0/1 1/1");
            Edge.same("c", parts(w, 2), "0/1 1/1 1/1");
            ClearingWaves v = Edge.told(3, 9, 1, "c=3;a>>c=6;c>>a=9;c>b=3");
            Edge.same("a gets a tenth of nothing", parts(v, 0), "1/1 0/1 1/1");
            Edge.same("c has 27 tenths", parts(v, 2), "9/10 0/1 1/1");
        });
        Edge.test(15, "RINGS that lose and get something, class by class", () -> {
            ClearingWaves x = Edge.told(5, 10, 9, "d=1;a>>b=3;a>>>e=3;b>a=2;b>d=3;c>>b=3;d>>a=2;d>>>e=3;e>c=1");
            Edge.same("a", parts(x, 0), "1/1 69081/70585 0/1");
            Edge.same("b", parts(x, 1), "8910/14117 1/1 1/1");
            Edge.same("c", parts(x, 2), "1/1 13419/70585 1/1");
            Edge.same("d", parts(x, 3), "1/1 1/1 9940/42351");
            Edge.same("e", parts(x, 4), "8946/14117 1/1 1/1");
        });
        Edge.test(15, "a PART is never above 1, nor below 0", () -> {
            ClearingWaves x = fiveWaves();
            for (int house = 0; house < 5; house++) {
                Edge.same("of " + house, parts(x, house), "0/1 1/1 1/1");
            }
            ClearingWaves y = Edge.told(2, 10, 10, "a=200;b=200;a>b=20");
            Edge.same("a", parts(y, 0), "1/1 1/1 1/1");
        });
        Edge.test(15, "great numbers: all debts between five that FAIL", () -> {
            ClearingWaves x = great();
            part("a", x, 0, 0, 362561893777L, 15477711274440L);
            Edge.due("fails", x.fails(), 31);
        });
        Edge.outside(15, "house", 3, NO, (x, v) -> x.part(v, 0, 0));
        Edge.outside(15, "cls", 3, NO, (x, v) -> x.part(0, v, 0));
        Edge.outside(15, "which", 2, NO, (x, v) -> x.part(0, 0, v));
        Edge.asked(15, "part", x -> x.part(0, 0, 1));
    }

    /** Five that fail, with the greatest number below that was found: 309554225488800. */
    static ClearingWaves great() {
        ClearingWaves x = Edge.told(5, 1, 1, "a=17;b=10;c=18;d=13;e=13;a>b=20;a>>b=7;a>>>b=10;a>c=19;a>>c=16;a>>>c=2;"
            + "a>d=20;a>>d=4;a>>>d=17;a>e=20;a>>e=4;a>>>e=8;b>a=20;b>>a=8;b>>>a=10;b>c=20;b>>c=20;b>>>c=4;b>d=19;"
            + "b>>d=3;b>>>d=9;b>e=20;b>>e=6;b>>>e=5;c>a=20;c>>a=20;c>>>a=3;c>b=19;c>>b=13;c>>>b=4;c>d=20");
        Edge.tell(x, "c>>>d=6;c>e=20;c>>e=18;c>>>e=3;d>a=19;d>>a=2;d>>>a=1;d>b=20;d>>b=10;d>>>b=7;d>c=20;d>>c=18;"
            + "d>>>c=20;d>e=20;d>>e=15;d>>>e=3;e>a=20;e>>a=8;e>>>a=13;e>b=20;e>>b=14;e>>>b=19;e>c=20;e>>c=7;"
            + "e>>>c=3;e>d=20;e>>d=13;e>>>d=12");
        return x;
    }

    private static void rounds() {
        Edge.test(16, "ROUND 0 supposes that none FAILS: each pays all, even if it can't", () -> {
            ClearingWaves x = fiveWaves();
            for (int k = 0; k < 15; k++) {
                Edge.fraction("part " + k, x.partIn(0, k / 3, k % 3, 0), x.partIn(0, k / 3, k % 3, 1), 1, 1);
            }
        });
        Edge.test(16, "ROUND 0 and the ROUND of the last WAVE are there, those ahead and behind aren't", () -> {
            ClearingWaves x = fiveWaves();
            Edge.due("round -1", x.partIn(-1, 3, 0, 1), NO);
            Edge.fraction("round 0", x.partIn(0, 3, 0, 0), x.partIn(0, 3, 0, 1), 1, 1);
            Edge.fraction("round 3", x.partIn(3, 3, 0, 0), x.partIn(3, 3, 0, 1), 1, 1);
            Edge.fraction("round 4", x.partIn(4, 3, 0, 0), x.partIn(4, 3, 0, 1), 1, 32);
            Edge.fraction("round 5", x.partIn(5, 3, 0, 0), x.partIn(5, 3, 0, 1), 0, 1);
            Edge.due("round 6", x.partIn(6, 3, 0, 1), NO);
            ClearingWaves y = new ClearingWaves();
            Edge.fraction("none fails: round 0", y.partIn(0, 1, 2, 0), y.partIn(0, 1, 2, 1), 1, 1);
            Edge.due("none fails: round 1", y.partIn(1, 1, 2, 0), NO);
        });
        Edge.test(16, "those of later WAVES pay all still, the others by what they get then", () -> {
            ClearingWaves x = Edge.full();
            Edge.fraction("a in round 1", x.partIn(1, 0, 0, 0), x.partIn(1, 0, 0, 1), 13, 20);
            Edge.fraction("b in round 1", x.partIn(1, 1, 2, 0), x.partIn(1, 1, 2, 1), 1, 1);
            Edge.fraction("a in round 2", x.partIn(2, 0, 0, 0), x.partIn(2, 0, 0, 1), 47, 100);
            Edge.fraction("b in round 2", x.partIn(2, 1, 0, 0), x.partIn(2, 1, 0, 1), 523, 800);
            Edge.fraction("b behind that", x.partIn(2, 1, 2, 0), x.partIn(2, 1, 2, 1), 0, 1);
            Edge.fraction("a with due 0", x.partIn(2, 0, 1, 0), x.partIn(2, 0, 1, 1), 1, 1);
        });
        Edge.outside(16, "round", 3, NO, (x, v) -> x.partIn(v, 0, 0, 0));
        Edge.outside(16, "house", 3, NO, (x, v) -> x.partIn(0, v, 0, 0));
        Edge.outside(16, "cls", 3, NO, (x, v) -> x.partIn(1, 0, v, 0));
        Edge.outside(16, "which", 2, NO, (x, v) -> x.partIn(2, 0, 0, v));
        Edge.asked(16, "partIn", x -> x.partIn(1, 0, 0, 1));
        Edge.test(19, "ROUND 0 and the ROUND of the last WAVE are there, those ahead and behind aren't", () -> {
            ClearingWaves x = fiveWaves();
            Edge.due("round -1", x.worthIn(-1, 4, 0), NO);
            Edge.fraction("round 0", x.worthIn(0, 4, 0), x.worthIn(0, 4, 1), 4, 1);
            Edge.fraction("round 4", x.worthIn(4, 4, 0), x.worthIn(4, 4, 1), 1, 8);
            Edge.fraction("round 5", x.worthIn(5, 4, 0), x.worthIn(5, 4, 1), 0, 1);
            Edge.due("round 6", x.worthIn(6, 4, 0), NO);
            ClearingWaves y = new ClearingWaves();
            Edge.fraction("none fails: round 0", y.worthIn(0, 1, 0), y.worthIn(0, 1, 1), 0, 1);
            Edge.due("none fails: round 1", y.worthIn(1, 1, 0), NO);
        });
        Edge.test(19, "its CASH, 200 too, and what it GETS, round by round", () -> {
            ClearingWaves x = Edge.full();
            long[] due = {9, 1, 12, 1, 19, 1, 9, 1, 17, 2, 14, 1, 7, 1, 67, 10, 1123, 100};
            for (int k = 0; k < 9; k++) {
                Edge.fraction("worth " + k, x.worthIn(k / 3, k % 3, 0), x.worthIn(k / 3, k % 3, 1),
                    due[2 * k], due[2 * k + 1]);
            }
            ClearingWaves y = Edge.told(2, 10, 10, "a=200;b=20;b>a=20");
            Edge.fraction("of 200", y.worthIn(0, 0, 0), y.worthIn(0, 0, 1), 220, 1);
        });
        Edge.outside(19, "round", 3, NO, (x, v) -> x.worthIn(v, 0, 0));
        Edge.outside(19, "house", 3, NO, (x, v) -> x.worthIn(0, v, 0));
        Edge.outside(19, "which", 2, NO, (x, v) -> x.worthIn(1, 1, v));
        Edge.asked(19, "worthIn", x -> x.worthIn(1, 1, 0));
    }

    private static void paid() {
        Edge.test(17, "nothing OWED or nothing PAID is 0 by 1; whole; in part, in lowest terms", () -> {
            ClearingWaves x = Edge.full();
            Edge.fraction("nothing owed", x.paid(0, 1, 1, 0), x.paid(0, 1, 1, 1), 0, 1);
            Edge.fraction("nothing paid", x.paid(0, 2, 2, 0), x.paid(0, 2, 2, 1), 0, 1);
            Edge.fraction("whole", x.paid(2, 0, 1, 0), x.paid(2, 0, 1, 1), 3, 1);
            Edge.fraction("in part", x.paid(0, 1, 0, 0), x.paid(0, 1, 0, 1), 47, 10);
            Edge.fraction("in part", x.paid(1, 2, 0, 0), x.paid(1, 2, 0, 1), 523, 100);
        });
        for (int h = 0; h < 3; h++) {
            int house = h;
            Edge.refused(17, "house " + h + " to itself", NO, x -> x.paid(house, house, 0, 0));
        }
        Edge.outside(17, "from", 3, NO, (x, v) -> x.paid(v, 1, 0, 0));
        Edge.outside(17, "to", 3, NO, (x, v) -> x.paid(0, v, 0, 0));
        Edge.outside(17, "cls", 3, NO, (x, v) -> x.paid(0, 1, v, 0));
        Edge.outside(17, "which", 2, NO, (x, v) -> x.paid(0, 1, 0, v));
        Edge.asked(17, "paid", x -> x.paid(0, 1, 0, 0));
        Edge.test(18, "nothing is 0 by 1; all CLASSES and all others; in lowest terms", () -> {
            ClearingWaves x = Edge.full();
            Edge.fraction("a", x.gets(0, 0), x.gets(0, 1), 3, 1);
            Edge.fraction("b", x.gets(1, 0), x.gets(1, 1), 47, 10);
            Edge.fraction("c", x.gets(2, 0), x.gets(2, 1), 523, 100);
            ClearingWaves y = Edge.told(5, 10, 10, "a=200;a>e=20;a>>e=19;a>>>e=18;b=1;b>>e=1;d=2;d>>>e=2");
            Edge.fraction("nothing", y.gets(0, 0), y.gets(0, 1), 0, 1);
            Edge.fraction("all", y.gets(4, 0), y.gets(4, 1), 60, 1);
        });
        Edge.outside(18, "house", 3, NO, (x, v) -> x.gets(v, 0));
        Edge.outside(18, "which", 2, NO, (x, v) -> x.gets(0, v));
        Edge.asked(18, "gets", x -> x.gets(1, 0));
    }

    private static void leftAndLost() {
        Edge.test(20, "0 by 1 of one that FAILS, and of one that HOLDS with just its DUE in all", () -> {
            ClearingWaves x = Edge.full();
            Edge.fraction("a fails", x.left(0, 0), x.left(0, 1), 0, 1);
            Edge.fraction("b fails", x.left(1, 0), x.left(1, 1), 0, 1);
            Edge.fraction("c holds", x.left(2, 0), x.left(2, 1), 823, 100);
            ClearingWaves y = Edge.told(2, 10, 10, "a=5;a>b=5;b=200");
            Edge.fraction("just its due", y.left(0, 0), y.left(0, 1), 0, 1);
            Edge.fraction("it owes nothing", y.left(1, 0), y.left(1, 1), 205, 1);
            y.cash(0, 4);
            Edge.fraction("it fails", y.left(0, 0), y.left(0, 1), 0, 1);
        });
        Edge.outside(20, "house", 3, NO, (x, v) -> x.left(v, 0));
        Edge.outside(20, "which", 2, NO, (x, v) -> x.left(2, v));
        Edge.asked(20, "left", x -> x.left(2, 1));
        Edge.test(21, "0 by 1 of one that HOLDS, and of one that FAILS without COSTS; all with COSTS 0 and 0", () -> {
            ClearingWaves x = Edge.full();
            Edge.fraction("a", x.lost(0, 0), x.lost(0, 1), 23, 10);
            Edge.fraction("b", x.lost(1, 0), x.lost(1, 1), 147, 100);
            Edge.fraction("c holds", x.lost(2, 0), x.lost(2, 1), 0, 1);
            x.costs(10, 10);
            Edge.due("a fails", x.fails() & 1, 1);
            Edge.fraction("a loses nothing", x.lost(0, 0), x.lost(0, 1), 0, 1);
            x.costs(0, 0);
            Edge.fraction("a loses all: 4 and 3", x.lost(0, 0), x.lost(0, 1), 7, 1);
            x.costs(0, 10);
            Edge.fraction("its cash", x.lost(0, 0), x.lost(0, 1), 4, 1);
            x.costs(10, 0);
            Edge.fraction("what it gets", x.lost(0, 0), x.lost(0, 1), 3, 1);
        });
        Edge.outside(21, "house", 3, NO, (x, v) -> x.lost(v, 0));
        Edge.outside(21, "which", 2, NO, (x, v) -> x.lost(0, v));
        Edge.asked(21, "lost", x -> x.lost(1, 1));
        Edge.test(22, "nothing is 0 by 1; all CLASSES added up; in THE CLEARING", () -> {
            ClearingWaves x = Edge.full();
            Edge.fraction("b from a", x.lacks(1, 0, 0), x.lacks(1, 0, 1), 53, 10);
            Edge.fraction("c from b", x.lacks(2, 1, 0), x.lacks(2, 1, 1), 277, 100);
            Edge.fraction("c from a: all of class 2", x.lacks(2, 0, 0), x.lacks(2, 0, 1), 5, 1);
            Edge.fraction("a from b: all of class 2", x.lacks(0, 1, 0), x.lacks(0, 1, 1), 2, 1);
            Edge.fraction("a from c, who holds", x.lacks(0, 2, 0), x.lacks(0, 2, 1), 0, 1);
            Edge.fraction("b from c, nothing is owed", x.lacks(1, 2, 0), x.lacks(1, 2, 1), 0, 1);
            ClearingWaves y = Edge.told(2, 10, 10, "a=7;a>b=4;a>>b=6;a>>>b=5");
            Edge.fraction("0, 3 and 5", y.lacks(1, 0, 0), y.lacks(1, 0, 1), 8, 1);
        });
        Edge.test(22, "each of five HOUSES from each: all of CLASS 1 and 2, and 2 by 3 of CLASS 0", () -> {
            ClearingWaves x = Edge.told(5, 10, 10, "");
            for (int from = 0; from < 4; from++) {
                x.cash(from, 1);
                x.owe(from, 4, 0, 3);
                x.owe(from, 3 - from, 1, 1 + from);
                x.owe(from, from < 2 ? from + 1 : 4, 2, 7 + from);
            }
            Edge.due("four fail", x.fails(), 15);
            int[] due = {0, 0, 0, 4, 0, 7, 0, 3, 0, 0, 0, 10, 0, 0, 0, 1, 0, 0, 0, 0, 2, 2, 11, 12, 0};
            for (int k = 0; k < 25; k++) {
                if (k / 5 != k % 5) {
                    String what = k / 5 + " from " + k % 5;
                    Edge.fraction(what, x.lacks(k / 5, k % 5, 0), x.lacks(k / 5, k % 5, 1), due[k], 1);
                }
            }
        });
        for (int h = 0; h < 3; h++) {
            int house = h;
            Edge.refused(22, "house " + h + " from itself", NO, x -> x.lacks(house, house, 0));
        }
        Edge.outside(22, "house", 3, NO, (x, v) -> x.lacks(v, 1, 0));
        Edge.outside(22, "from", 3, NO, (x, v) -> x.lacks(0, v, 0));
        Edge.outside(22, "which", 2, NO, (x, v) -> x.lacks(1, 0, v));
        Edge.asked(22, "lacks", x -> x.lacks(1, 0, 0));
        Edge.test(23, "what 0, 1 and 2; nothing is 0 by 1", () -> {
            ClearingWaves x = Edge.full();
            Edge.fraction("paid", x.all(0, 0), x.all(0, 1), 1293, 100);
            Edge.fraction("left", x.all(1, 0), x.all(1, 1), 823, 100);
            Edge.fraction("lost", x.all(2, 0), x.all(2, 1), 377, 100);
            ClearingWaves y = Edge.told(5, 10, 10, "e=9");
            Edge.fraction("nothing paid", y.all(0, 0), y.all(0, 1), 0, 1);
            Edge.fraction("left", y.all(1, 0), y.all(1, 1), 9, 1);
            Edge.fraction("nothing lost", y.all(2, 0), y.all(2, 1), 0, 1);
            Edge.fraction("nothing left", fiveWaves().all(1, 0), fiveWaves().all(1, 1), 0, 1);
        });
        Edge.test(23, "the most that there is: all debts of 20, all CASH of 200", () -> {
            ClearingWaves x = Edge.told(5, 10, 10, "a=200;b=200;c=200;d=200;e=200");
            for (int k = 0; k < 75; k++) {
                x.owe(k / 15, k / 3 % 5, k % 3, 20);
            }
            Edge.fraction("paid", x.all(0, 0), x.all(0, 1), 1200, 1);
            Edge.fraction("left", x.all(1, 0), x.all(1, 1), 1000, 1);
            Edge.fraction("lost", x.all(2, 0), x.all(2, 1), 0, 1);
        });
        Edge.outside(23, "what", 3, NO, (x, v) -> x.all(v, 0));
        Edge.outside(23, "which", 2, NO, (x, v) -> x.all(0, v));
        Edge.outside(23, "which of left", 2, NO, (x, v) -> x.all(1, v));
        Edge.outside(23, "which of lost", 2, NO, (x, v) -> x.all(2, v));
        Edge.asked(23, "all", x -> x.all(2, 0));
    }

    private static void causes() {
        Edge.test(24, "-5 of WAVE 1, STATE of one that HOLDS", () -> {
            ClearingWaves x = Edge.full();
            Edge.due("a", x.cause(0), NOT_SO);
            Edge.due("b", x.cause(1), 0);
            Edge.due("c", x.cause(2), STATE);
            Edge.due("none fails", new ClearingWaves().cause(1), STATE);
            ClearingWaves y = fiveWaves();
            for (int house = 0; house < 5; house++) {
                Edge.due("of five", y.cause(house), house == 0 ? NOT_SO : house - 1);
            }
        });
        Edge.test(24, "that from which it LACKS most, of several the least", () -> {
            Edge.due("3 3 3", Edge.told(5, 10, 10, "a>d=3;b>d=3;c>d=3;d>e=9").cause(3), 0);
            Edge.due("3 4 4", Edge.told(5, 10, 10, "a>d=3;b>d=4;c>d=4;d>e=11").cause(3), 1);
            Edge.due("3 4 5", Edge.told(5, 10, 10, "a>d=3;b>d=4;c>d=5;d>e=12").cause(3), 2);
            Edge.due("5 4 5", Edge.told(5, 10, 10, "a>d=5;b>d=4;c>d=5;d>e=14").cause(3), 0);
            Edge.due("the least is behind it", Edge.told(4, 10, 10, "b>a=3;c>a=3;a>d=6").cause(0), 1);
            Edge.due("all classes", Edge.told(4, 10, 10, "a>c=3;b>c=2;b>>c=1;b>>>c=1;c>d=7").cause(2), 1);
            Edge.due("lacks, not owed", Edge.told(4, 10, 10, "a=4;a>c=5;b>c=2;c>d=7").cause(2), 1);
        });
        Edge.test(24, "of all earlier WAVES, not just of the one before", () -> {
            ClearingWaves x = Edge.told(5, 10, 10, "a>b=5;a>d=5;b>d=3;d=5;d>e=7");
            Edge.due("d falls in wave 3", x.wave(3), 3);
            Edge.due("it lacks 5 from a, 3 from b", x.cause(3), 0);
            ClearingWaves y = Edge.told(5, 10, 10, "a>b=8;a>d=5;b>d=6;d=5;d>e=7");
            Edge.due("d falls in wave 3", y.wave(3), 3);
            Edge.due("it lacks 5 from a, 6 from b", y.cause(3), 1);
        });
        Edge.test(24, "in ROUND WAVE - 1, not in THE CLEARING; none of the same WAVE", () -> {
            ClearingWaves x = Edge.told(4, 10, 10, "b=1;a>c=3;b>c=5;c>>b=2;c>d=6");
            Edge.due("wave", x.wave(2), 2);
            Edge.fraction("lacks from b", x.lacks(2, 1, 0), x.lacks(2, 1, 1), 4, 1);
            Edge.fraction("lacks from a", x.lacks(2, 0, 0), x.lacks(2, 0, 1), 3, 1);
            Edge.due("cause", x.cause(2), 0);
            ClearingWaves y = Edge.told(4, 10, 10, "c>a=1;c>b=1;b>a=9;b=8;a>d=10");
            Edge.due("a", y.wave(0), 2);
            Edge.due("b", y.wave(1), 2);
            Edge.due("a lacks from c, of wave 1", y.cause(0), 2);
        });
        Edge.outside(24, "house", 3, NONE, (x, v) -> x.cause(v));
        Edge.refused(24, "house 2, which HOLDS,", STATE, x -> x.cause(2));
        Edge.asked(24, "cause", x -> x.cause(1));
    }

    private static void chains() {
        Edge.test(25, "0 is the HOUSE itself, 4 the last of five; -5 behind the CHAIN's end", () -> {
            ClearingWaves x = fiveWaves();
            for (int house = 0; house < 5; house++) {
                for (int k = 0; k < 5; k++) {
                    Edge.due("chain " + house + " " + k, x.chain(house, k), k <= house ? house - k : NOT_SO);
                }
            }
        });
        Edge.test(25, "the CHAIN ends with a HOUSE of WAVE 1, which needn't be the first", () -> {
            ClearingWaves x = Edge.told(5, 10, 10, "a>b=8;a>d=5;b>d=6;d=5;d>e=7");
            int[] due = {3, 1, 0, NOT_SO, NOT_SO};
            for (int k = 0; k < 5; k++) {
                Edge.due("chain " + k, x.chain(3, k), due[k]);
            }
            ClearingWaves y = Edge.told(3, 10, 10, "c>b=3;b>a=3");
            Edge.due("b", y.chain(1, 1), 2);
            Edge.due("end", y.chain(1, 2), NOT_SO);
        });
        Edge.test(25, "-5 is told only where there is no NONE and no STATE", () -> {
            ClearingWaves x = Edge.full();
            Edge.due("no such house, k 4", x.chain(3, 4), NONE);
            Edge.due("k 5 behind a chain of one", x.chain(0, 5), NONE);
            Edge.due("k -1 of one that holds", x.chain(2, -1), NONE);
            Edge.due("k 5 of one that holds", x.chain(2, 5), NONE);
            Edge.due("k 4 of one that holds", x.chain(2, 4), STATE);
            Edge.due("k 0 of one that holds", x.chain(2, 0), STATE);
            Edge.due("k 1 behind a chain of one", x.chain(0, 1), NOT_SO);
        });
        Edge.test(25, "no HOUSE FAILS: STATE of each", () -> {
            ClearingWaves x = Edge.told(5, 0, 0, "a=5;a>b=5;e=1");
            for (int house = 0; house < 5; house++) {
                Edge.due("chain", x.chain(house, 0), STATE);
                Edge.due("chain", x.chain(house, 4), STATE);
                Edge.due("cause", x.cause(house), STATE);
                Edge.due("root", x.root(house), STATE);
                Edge.due("pulls", x.pulls(house), 0);
            }
        });
        Edge.outside(25, "house", 3, NONE, (x, v) -> x.chain(v, 0));
        Edge.outside(25, "k", 5, NONE, (x, v) -> x.chain(1, v));
        Edge.outside(25, "k of one that HOLDS", 5, NONE, (x, v) -> x.chain(2, v));
        Edge.asked(25, "chain", x -> x.chain(1, 1));
        Edge.test(26, "of WAVE 1 it is the HOUSE itself; of the last of five the first", () -> {
            ClearingWaves x = fiveWaves();
            for (int house = 0; house < 5; house++) {
                Edge.due("root of " + house, x.root(house), 0);
            }
            ClearingWaves y = Edge.told(5, 10, 10, "e>d=3;d>c=3;c>b=3;b>a=3");
            for (int house = 1; house < 5; house++) {
                Edge.due("root of " + house, y.root(house), 4);
            }
            Edge.due("a holds", y.root(0), STATE);
        });
        Edge.outside(26, "house", 3, NONE, (x, v) -> x.root(v));
        Edge.refused(26, "house 2, which HOLDS,", STATE, x -> x.root(2));
        Edge.asked(26, "root", x -> x.root(1));
        Edge.test(27, "itself, too; 0 of one that HOLDS; all five of the first", () -> {
            ClearingWaves x = fiveWaves();
            for (int house = 0; house < 5; house++) {
                Edge.due("pulls of " + house, x.pulls(house), 5 - house);
            }
            ClearingWaves y = Edge.told(5, 10, 10, "a>b=5;a>d=5;b>d=3;d=5;d>e=7");
            int[] due = {3, 1, 0, 1, 0};
            for (int house = 0; house < 5; house++) {
                Edge.due("pulls of " + house, y.pulls(house), due[house]);
            }
            Edge.due("none fails", new ClearingWaves().pulls(0), 0);
        });
        Edge.test(27, "CHAINS that go on through house 0, and two that end in one HOUSE", () -> {
            ClearingWaves x = Edge.told(5, 10, 10, "c>a=4;a>b=4;b>d=4;c>e=3;e>d=3");
            int[] due = {2, 1, 4, 0, 1};
            for (int house = 0; house < 5; house++) {
                Edge.due("pulls of " + house, x.pulls(house), due[house]);
            }
            Edge.due("chain of b, 1", x.chain(1, 1), 0);
            Edge.due("chain of b, 2", x.chain(1, 2), 2);
            Edge.due("chain of b, 3", x.chain(1, 3), NOT_SO);
            Edge.due("root of b", x.root(1), 2);
        });
        Edge.outside(27, "house", 3, NONE, (x, v) -> x.pulls(v));
        Edge.asked(27, "pulls", x -> x.pulls(0));
    }

    public static void main(String[] args) {
        waves();
        wholeParts();
        greatestParts();
        rounds();
        paid();
        leftAndLost();
        causes();
        chains();
        Edge.end();
    }
}
