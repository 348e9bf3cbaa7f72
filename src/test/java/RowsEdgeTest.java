/** Promises 49 to 55: the edges of ROWS, of TOLD PARTS and of THE IMAGE. */
public final class RowsEdgeTest {
    private static final int NONE = Edge.NONE, BAD = Edge.BAD, STATE = Edge.STATE;
    private static final int NOTHING = Edge.NOTHING, BEYOND = Edge.BEYOND, BELOW = Edge.BELOW;
    private static final int MIN = Edge.MIN, MAX = Edge.MAX;
    private static final long NO = Edge.NO, MOST = Edge.MOST_BELOW;
    /** Places that a row of 20 longs hasn't, some of them places when they wrap around. */
    private static final int[] NO_PLACES = {-1, -2, -20, -256, MIN, MIN + 1, 20, 21, 40, 60, 64, 79, 80, 256, 65536,
        1 << 30, MAX - 1, MAX};

    private static void row() {
        Edge.test(49, "n is 0 .. 20: a ROW of 0 longs has no place, one of 20 has places 0 .. 19", () -> {
            ClearingWaves x = new ClearingWaves();
            for (int row = 0; row < 4; row++) {
                Edge.due("nothing", x.set(row, 0, 1), NOTHING);
                Edge.due("0", x.row(row, 0), 1);
                Edge.due("no place", x.set(row, 0, 1), BEYOND);
                Edge.due("no place", x.get(row, 0), NO);
                Edge.due("1", x.row(row, 1), 1);
                Edge.due("one place", x.get(row, 0), 0);
                Edge.due("no second", x.get(row, 1), NO);
                Edge.due("20", x.row(row, 20), 1);
                Edge.due("last", x.get(row, 19), 0);
                Edge.due("none behind", x.get(row, 20), NO);
                Edge.due("19", x.row(row, 19), 1);
                Edge.due("last", x.get(row, 18), 0);
                Edge.due("none behind", x.get(row, 19), NO);
            }
        });
        Edge.test(49, "all 0, whatever stood there; the other ROWS are as they were", () -> {
            ClearingWaves x = Edge.full();
            Edge.due("as long as it was", x.row(0, 20), 1);
            for (int i = 0; i < 20; i++) {
                Edge.due("place " + i, x.get(0, i), 0);
                x.set(0, i, -1 - i);
            }
            Edge.due("shorter", x.row(0, 3), 1);
            Edge.same("three", Edge.row(x, 0, 4), "0 0 0 no");
            Edge.due("longer again", x.row(0, 20), 1);
            for (int i = 0; i < 20; i++) {
                Edge.due("place " + i, x.get(0, i), 0);
            }
            Edge.same("row 3", Edge.row(x, 3, 13), "0 376 800 0 523 800 0 800 800 800 800 0 no");
            Edge.due("row 1", x.set(1, 0, 5), BEYOND);
            Edge.due("row 2", x.set(2, 0, 5), NOTHING);
            Edge.due("row 3 of 12", x.row(3, 0), 1);
            Edge.due("then of 0", x.set(3, 0, 5), BEYOND);
        });
        Edge.outside(49, "row", 4, NONE, (x, v) -> x.row(v, 5));
        for (int n : new int[] {21, 22, 32, 64, 256, 1 << 30, MAX}) {
            Edge.refused(49, "n " + n, BAD, x -> x.row(0, n));
        }
        for (int n : new int[] {-1, -2, -20, -256, MIN + 20, MIN + 1, MIN}) {
            Edge.refused(49, "n " + n, BELOW, x -> x.row(0, n));
        }
        Edge.refused(49, "no such row and n 21: NONE first,", NONE, x -> x.row(4, 21));
        Edge.refused(49, "no such row and n -1: NONE first,", NONE, x -> x.row(-1, -1));
        Edge.refused(49, "n 21 of a ROW of nothing: it is of nothing still,", BAD, x -> x.row(2, 21));
        Edge.refused(49, "n -1 of a ROW of nothing: it is of nothing still,", BELOW, x -> x.row(2, -1));
    }

    private static void set() {
        Edge.test(50, "the first and the last place, and v at the ends of a long", () -> {
            ClearingWaves x = new ClearingWaves();
            for (int row = 0; row < 4; row++) {
                x.row(row, 20);
                Edge.due("first", x.set(row, 0, Long.MIN_VALUE), 1);
                Edge.due("last", x.set(row, 19, Long.MAX_VALUE), 1);
                Edge.due("between", x.set(row, 7, -(1L << 32) + row), 1);
            }
            for (int row = 0; row < 4; row++) {
                Edge.due("first", x.get(row, 0), Long.MIN_VALUE);
                Edge.due("second", x.get(row, 1), 0);
                Edge.due("between", x.get(row, 7), -(1L << 32) + row);
                Edge.due("last but one", x.get(row, 18), 0);
                Edge.due("last", x.get(row, 19), Long.MAX_VALUE);
            }
        });
        for (int i : NO_PLACES) {
            Edge.refused(50, "place " + i + " of 20", BEYOND, x -> x.set(0, i, 7));
        }
        Edge.refused(50, "place 0 of a ROW of 0 longs", BEYOND, x -> x.set(1, 0, 7));
        Edge.refused(50, "place 12 of 12", BEYOND, x -> x.set(3, 12, 7));
        Edge.refused(50, "a ROW of nothing", NOTHING, x -> x.set(2, 0, 7));
        Edge.refused(50, "a ROW of nothing, place -1: NOTHING first,", NOTHING, x -> x.set(2, -1, 7));
        Edge.refused(50, "a ROW of nothing, place 20: NOTHING first,", NOTHING, x -> x.set(2, 20, 7));
        Edge.refused(50, "no such row, place -1: NONE first,", NONE, x -> x.set(4, -1, 7));
        Edge.outside(50, "row", 4, NONE, (x, v) -> x.set(v, 0, 7));
        Edge.test(51, "no such place, nothing there: NO", () -> {
            ClearingWaves x = Edge.full();
            Edge.due("first", x.get(0, 0), 100);
            Edge.due("last", x.get(0, 19), 119);
            for (int i : NO_PLACES) {
                Edge.due("place " + i, x.get(0, i), NO);
                Edge.due("of a row of 0, place " + i, x.get(1, i), NO);
                Edge.due("of nothing, place " + i, x.get(2, i), NO);
            }
            Edge.due("of a row of 0", x.get(1, 0), NO);
            Edge.due("of nothing", x.get(2, 0), NO);
            Edge.due("the last of 12", x.get(3, 11), 0);
            Edge.due("behind it", x.get(3, 12), NO);
        });
        Edge.outside(51, "row", 4, NO, (x, v) -> x.get(v, 0));
        Edge.outside(51, "i", 20, NO, (x, v) -> x.get(0, v));
        Edge.asked(51, "get", x -> x.get(0, 3));
    }

    private static void lay() {
        Edge.test(52, "3 n + 1 longs, with the least below that all PARTS can have", () -> {
            for (int n = 2; n <= 5; n++) {
                ClearingWaves x = Edge.told(n, 10, 10, "");
                x.row(2, 3 * n + 1);
                Edge.due("laid", x.lay(2, 0), 3 * n + 1);
                for (int i = 0; i <= 3 * n; i++) {
                    Edge.due("all 1 by 1", x.get(2, i), 1);
                }
                x.row(2, 3 * n);
                Edge.due("one place less", x.lay(2, 0), BEYOND);
                Edge.due("the last part", x.get(2, 3 * n - 1), 1);
                x.row(2, 20);
                Edge.due("just to the end", x.lay(2, 19 - 3 * n), 3 * n + 1);
                Edge.due("ahead of the first", x.get(2, 18 - 3 * n), 0);
                Edge.due("one too far", x.lay(2, 20 - 3 * n), BEYOND);
            }
            ClearingWaves y = Edge.told(4, 10, 10, "a=1;a>b=4;b=5;b>c=6;c=1;c>d=6");
            y.row(0, 13);
            Edge.due("laid", y.lay(0, 0), 13);
            Edge.same("1 by 4, 1 (5 and 1) and 1 by 1: over 4", Edge.row(y, 0, 14), "1 4 4 4 4 4 4 4 4 4 4 4 4 no");
            y.cash(1, 4);
            Edge.due("laid", y.lay(0, 0), 13);
            Edge.same("1 by 4, 5 by 6, 1 by 1: over 12", Edge.row(y, 0, 14), "3 12 12 10 12 12 12 12 12 12 12 12 12 no");
        });
        Edge.test(52, "the greatest number below that was found", () -> {
            ClearingWaves x = ClearingEdgeTest.great();
            x.row(0, 16);
            Edge.due("laid", x.lay(0, 0), 16);
            Edge.same("parts", Edge.row(x, 0, 17), "7251237875540 0 0 4573722935540 0 0 7631518101140 0 0 5723995122740 0 0 "
                + "5659768015067 0 0 309554225488800 no");
            Edge.due("they agree", x.judge(0, 0), 2);
        });
        Edge.test(52, "five HOUSES in five WAVES that pay nothing", () -> {
            ClearingWaves x = Edge.told(5, 10, 5, "a>b=4;b>c=4;c>d=4;d>e=4;e>a=2");
            x.row(3, 20);
            Edge.due("laid", x.lay(3, 4), 16);
            Edge.same("parts", Edge.row(x, 3, 21), "0 0 0 0 0 1 1 0 1 1 0 1 1 0 1 1 0 1 1 1 no");
        });
        Edge.test(52, "just the ROW is changed, in 3 n + 1 places", () -> {
            ClearingWaves x = Edge.full();
            ClearingWaves y = Edge.full();
            Edge.due("from place 4 on", x.lay(0, 4), 10);
            long[] parts = {376, 800, 0, 523, 800, 0, 800, 800, 800, 800};
            for (int k = 0; k < 10; k++) {
                y.set(0, 4 + k, parts[k]);
            }
            Edge.same("all that is seen then", Edge.look(x), Edge.look(y));
        });
        Edge.test(52, "not all were LAID: those that had a place are there all the same", () -> {
            long[] parts = {376, 800, 0, 523, 800, 0, 800, 800, 800, 800};
            for (int i : new int[] {10, 11, 15, 18, 19}) {
                ClearingWaves x = Edge.full();
                ClearingWaves y = Edge.full();
                Edge.due("from place " + i, x.lay(0, i), i == 10 ? 10 : BEYOND);
                for (int k = 0; i + k < 20; k++) {
                    y.set(0, i + k, parts[k]);
                }
                Edge.same("all that is seen then", Edge.look(x), Edge.look(y));
            }
        });
        for (int i : NO_PLACES) {
            Edge.refused(52, "place " + i + " of 20: none is LAID, it", BEYOND, x -> x.lay(0, i));
        }
        Edge.refused(52, "place -9, 10 longs behind which there are places: none is LAID, it", BEYOND, x -> x.lay(0, -9));
        Edge.refused(52, "a ROW of 0 longs", BEYOND, x -> x.lay(1, 0));
        Edge.refused(52, "a ROW of nothing", NOTHING, x -> x.lay(2, 0));
        Edge.refused(52, "a ROW of nothing, place -1: NOTHING first,", NOTHING, x -> x.lay(2, -1));
        Edge.refused(52, "a ROW of nothing, place 20: NOTHING first,", NOTHING, x -> x.lay(2, 20));
        Edge.refused(52, "no such row, place -1: NONE first,", NONE, x -> x.lay(4, -1));
        Edge.outside(52, "row", 4, NONE, (x, v) -> x.lay(v, 0));
    }

    private static void put(ClearingWaves x, int row, int i, long... values) {
        for (int k = 0; k < values.length; k++) {
            x.set(row, i + k, values[k]);
        }
    }

    private static void judged(String what, ClearingWaves x, long want, long... values) {
        put(x, 0, 0, values);
        Edge.due(what, x.judge(0, 0), want);
    }

    private static void judgeStates() {
        Edge.test(53, "STATE: nothing is in the ROW, or it ends ahead of the last of 3 n + 1, or i is below 0", () -> {
            for (int n = 2; n <= 5; n++) {
                ClearingWaves x = Edge.told(n, 10, 10, "");
                Edge.due("nothing", x.judge(1, 0), STATE);
                x.row(1, 0);
                Edge.due("0 longs", x.judge(1, 0), STATE);
                x.row(1, 3 * n);
                Edge.due("3 n", x.judge(1, 0), STATE);
                x.row(1, 3 * n + 1);
                Edge.due("3 n + 1, all 0", x.judge(1, 0), BAD);
                x.lay(1, 0);
                Edge.due("3 n + 1", x.judge(1, 0), 2);
                Edge.due("from 1", x.judge(1, 1), STATE);
                Edge.due("from -1", x.judge(1, -1), STATE);
                x.row(1, 20);
                x.lay(1, 19 - 3 * n);
                Edge.due("the last place that will do", x.judge(1, 19 - 3 * n), 2);
                Edge.due("one behind it", x.judge(1, 20 - 3 * n), STATE);
            }
        });
        Edge.outside(53, "row", 4, NONE, (x, v) -> x.judge(v, 0));
        Edge.outside(53, "i", 11, STATE, (x, v) -> x.judge(0, v));
        Edge.refused(53, "place -1 of a ROW that is told from 0 on", STATE, x -> x.judge(3, -1));
        Edge.refused(53, "a ROW of nothing", STATE, x -> x.judge(2, 0));
        Edge.refused(53, "a ROW of 0 longs", STATE, x -> x.judge(1, 0));
        Edge.refused(53, "no such row, place -1: NONE first,", NONE, x -> x.judge(4, -1));
        Edge.refused(53, "numbers that are wrong in a ROW that ends ahead: STATE first,",
            x -> put(x, 3, 3, -1, -1, -1, -1, -1, -1, -1, -1, -1), STATE, x -> x.judge(3, 3));
        Edge.refused(53, "numbers that are wrong, i below 0: STATE first,",
            x -> put(x, 3, 0, -1, -1, -1, -1, -1, -1, -1, -1, -1, -1), STATE, x -> x.judge(3, -1));
        Edge.refused(53, "0 below", x -> x.set(3, 10, 0), BAD, x -> x.judge(3, 1));
        Edge.refused(53, "less than 0 above", x -> x.set(3, 4, -1), BAD, x -> x.judge(3, 1));
        Edge.asked(53, "judge", x -> x.judge(3, 1));
    }

    private static void judgeNumbers() {
        Edge.test(53, "what is below is 1 .. 10^15: 1 is the least, 10^15 the greatest that is taken", () -> {
            ClearingWaves x = Edge.told(2, 10, 10, "");
            x.row(0, 7);
            for (long below : new long[] {1, 2, 1L << 32, MOST - 1, MOST}) {
                judged("below " + below, x, 2, below, below, below, below, below, below, below);
                judged("0 above " + below, x, 0, 0, below, below, below, below, below, below);
            }
            long[] wrong = {0, -1, -2, MOST + 1, MOST + 2, -MOST, Long.MAX_VALUE, Long.MIN_VALUE, 1L << 50, 1L << 62};
            for (long below : wrong) {
                judged("below " + below, x, BAD, below, below, below, below, below, below, below);
                judged("0 by " + below, x, BAD, 0, 0, 0, 0, 0, 0, below);
                judged("1 by " + below, x, BAD, 1, 1, 1, 1, 1, 1, below);
            }
        });
        Edge.test(53, "what is above is 0 .. what is below, in every place", () -> {
            for (int k = 0; k < 15; k++) {
                ClearingWaves x = Edge.told(5, 10, 10, "");
                x.row(0, 16);
                put(x, 0, 0, 7, 7, 7, 7, 7, 7, 7, 7, 7, 7, 7, 7, 7, 7, 7, 7);
                long[] values = {7, 6, 0, 8, -1, 7 + (1L << 32), Long.MAX_VALUE, Long.MIN_VALUE, -7};
                int[] due = {2, 0, 0, BAD, BAD, BAD, BAD, BAD, BAD};
                for (int v = 0; v < values.length; v++) {
                    x.set(0, k, values[v]);
                    Edge.due(values[v] + " by 7 in place " + k, x.judge(0, 0), due[v]);
                }
            }
        });
        Edge.test(53, "BAD also where what is told ahead of it doesn't AGREE", () -> {
            ClearingWaves x = Edge.told(2, 10, 10, "a=5;a>b=5");
            x.row(0, 7);
            judged("the first doesn't agree", x, 0, 0, 7, 7, 7, 7, 7, 7);
            judged("the last is wrong, too", x, BAD, 0, 7, 7, 7, 7, 8, 7);
        });
        Edge.test(53, "with 10^15 below, 200 CASH, 240 DUE and COSTS of 10 nothing wraps around", () -> {
            ClearingWaves x = Edge.told(5, 10, 10, "a=200;b=200;c=200;d=200;e=200");
            for (int k = 0; k < 75; k++) {
                x.owe(k / 15, k / 3 % 5, k % 3, 20);
            }
            x.row(0, 16);
            for (int k = 0; k < 16; k++) {
                x.set(0, k, MOST);
            }
            Edge.due("each holds", x.judge(0, 0), 2);
            x.set(0, 2, MOST - 1);
            Edge.due("a little less", x.judge(0, 0), 0);
            x.set(0, 2, MOST);
            x.cash(0, 0);
            Edge.due("gets what it owes", x.judge(0, 0), 2);
        });
    }

    private static void judgeAgrees() {
        Edge.test(53, "2 those in THE CLEARING, 1 others that AGREE, 0 that don't", () -> {
            ClearingWaves x = Edge.told(3, 10, 10, "a>b=10;b>a=10;a>>c=5;b>>c=5");
            x.row(0, 10);
            judged("the greatest", x, 2, 1, 0, 1, 1, 0, 1, 1, 1, 1, 1);
            judged("over 7", x, 2, 7, 0, 7, 7, 0, 7, 7, 7, 7, 7);
            judged("half of them", x, 1, 1, 0, 2, 1, 0, 2, 2, 2, 2, 2);
            judged("none of them", x, 1, 0, 0, 1, 0, 0, 1, 1, 1, 1, 1);
            judged("just less than the greatest", x, 1, MOST - 1, 0, MOST, MOST - 1, 0, MOST, MOST, MOST, MOST, MOST);
            judged("unlike ones", x, 0, MOST - 1, 0, MOST, MOST, 0, MOST, MOST, MOST, MOST, MOST);
            judged("class 1 as well", x, 0, 1, 1, 1, 1, 1, 1, 1, 1, 1, 1);
        });
        Edge.test(53, "one CLASS whole, the next in part, the last not at all, of others than THE CLEARING's", () -> {
            ClearingWaves x = Edge.told(3, 10, 10, "a=2;a>c=2;a>>b=10;b>>a=10;a>>>c=5;b>>>c=5");
            x.row(0, 10);
            judged("the greatest", x, 2, 1, 1, 0, 1, 1, 0, 1, 1, 1, 1);
            judged("half of the ring", x, 1, 2, 1, 0, 2, 1, 0, 2, 2, 2, 2);
            judged("nothing of it", x, 1, 1, 0, 0, 1, 0, 0, 1, 1, 1, 1);
            judged("unlike ones", x, 0, 2, 1, 0, 2, 2, 0, 2, 2, 2, 2);
            judged("class 0 in part", x, 0, 1, 1, 0, 2, 1, 0, 2, 2, 2, 2);
            judged("something of class 2", x, 0, 2, 1, 1, 2, 1, 0, 2, 2, 2, 2);
        });
        Edge.test(53, "a CLASS with DUE 0 is told with a PART of 1", () -> {
            ClearingWaves x = Edge.told(3, 10, 10, "a>b=10;b>a=10;a>>c=5;b>>c=5");
            x.row(0, 10);
            int[] free = {2, 5, 6, 7, 8};
            for (int k : free) {
                put(x, 0, 0, 2, 0, 2, 2, 0, 2, 2, 2, 2, 2);
                x.set(0, k, 1);
                Edge.due("place " + k, x.judge(0, 0), 0);
                x.set(0, k, 0);
                Edge.due("place " + k, x.judge(0, 0), 0);
                x.set(0, k, 2);
                Edge.due("place " + k, x.judge(0, 0), 2);
            }
        });
        Edge.test(53, "just those FAIL that have a WORTH by them below their DUE in all", () -> {
            ClearingWaves x = Edge.told(2, 0, 10, "a=5;b=5;a>b=10;b>a=10");
            x.row(0, 7);
            judged("none fails", x, 2, 1, 1, 1, 1, 1, 1, 1);
            judged("both fail and pay by what they get", x, 1, 0, 1, 1, 0, 1, 1, 1);
            judged("half: 5 and 5 is just the due, which is paid whole", x, 0, 1, 2, 2, 1, 2, 2, 2);
            judged("less than half: they fail", x, 1, 49, 100, 100, 49, 100, 100, 100);
            judged("more than half: they don't", x, 0, 51, 100, 100, 51, 100, 100, 100);
        });
        Edge.test(53, "in part and a little more or less, over numbers that don't divide it", () -> {
            ClearingWaves x = Edge.told(2, 7, 10, "a=5;a>b=9");
            x.row(0, 7);
            judged("7 by 18", x, 2, 7, 18, 18, 18, 18, 18, 18);
            judged("a little more", x, 0, 8, 18, 18, 18, 18, 18, 18);
            judged("a little less", x, 0, 6, 18, 18, 18, 18, 18, 18);
            judged("7 by 19", x, 0, 7, 19, 19, 19, 19, 19, 19);
            judged("7 by 17", x, 0, 7, 17, 17, 17, 17, 17, 17);
            long below = MOST / 18 * 18;
            judged("over the greatest", x, 2, below / 18 * 7, below, below, below, below, below, below);
            judged("one more", x, 0, below / 18 * 7 + 1, below, below, below, below, below, below);
        });
        Edge.test(53, "three times the greatest numbers below that were found", () -> {
            ClearingWaves x = ClearingEdgeTest.great();
            x.row(0, 16);
            x.lay(0, 0);
            for (int k = 0; k < 16; k++) {
                x.set(0, k, 3 * x.get(0, k));
            }
            Edge.due("below", x.get(0, 15), 928662676466400L);
            Edge.due("they agree", x.judge(0, 0), 2);
            x.set(0, 12, x.get(0, 12) + 1);
            Edge.due("they don't", x.judge(0, 0), 0);
        });
    }

    private static void image() {
        Edge.test(54, "of 2 .. 5 HOUSES: n, and nothing else is changed", () -> {
            for (int n = 2; n <= 5; n++) {
                Edge.due("taken", Edge.told(n, 10, 10, "a=1").image(), n);
            }
            ClearingWaves x = Edge.full();
            Edge.due("taken", x.image(), 3);
            ClearingWaves y = Edge.full();
            String seen = Edge.look(x);
            String want = Edge.look(y);
            Edge.same("all ahead of undo", seen.substring(0, seen.indexOf("read")), want.substring(0, want.indexOf("read")));
        });
        Edge.test(54, "one taken later stands in the place of the one before", () -> {
            ClearingWaves x = new ClearingWaves();
            x.cash(0, 5);
            Edge.due("first", x.image(), 2);
            x.houses(5);
            x.cash(4, 6);
            Edge.due("second", x.image(), 5);
            x.houses(3);
            Edge.due("back", x.undo(), 5);
            Edge.due("cash", x.count(14), 6);
            Edge.due("cash", x.count(10), 0);
        });
        Edge.test(54, "what is told later isn't in it: n, CASH, OWED, COSTS, UNITS, by whichever call", () -> {
            ClearingWaves x = Edge.told(3, 4, 5, "a=9;b=8;a>b=7;b>a=6;b>c=5");
            x.units(2, 1, 1, 77);
            x.image();
            x.cash(0, 1);
            x.cash(2, 1);
            x.settle(1, 2, 0, 1);
            x.cede(0, 1, 2, 0, 1);
            x.net(0);
            Edge.read(x, "c=3;c>>>a=9");
            x.costs(0, 1);
            x.units(2, 1, 1, 0);
            x.units(0, 0, 0, 3);
            for (int time = 0; time < 3; time++) {
                Edge.due("undo", x.undo(), 3);
                Edge.due("a", x.count(1), 4);
                Edge.due("b", x.count(2), 5);
                Edge.due("cash of a", x.count(10), 9);
                Edge.due("cash of b", x.count(11), 8);
                Edge.due("cash of c", x.count(12), 0);
                Edge.due("a to b", x.owed(0, 1, 0), 7);
                Edge.due("a to c", x.owed(0, 2, 0), 0);
                Edge.due("b to a", x.owed(1, 0, 0), 6);
                Edge.due("b to c", x.owed(1, 2, 0), 5);
                Edge.due("how many are owed", x.count(7), 3);
                Edge.due("units", x.unitsOf(2, 1, 1), 77);
                Edge.due("units", x.unitsOf(0, 0, 0), 0);
                x.cash(0, 100 + time);
                x.owe(0, 1, 0, time);
                x.costs(time, time);
                x.units(2, 1, 1, time);
                if (time == 1) {
                    x.houses(5);
                }
            }
        });
        Edge.test(55, "STATE: there is none, and nothing is changed", () -> {
            ClearingWaves x = Edge.told(3, 4, 5, "a=9;a>b=7");
            Edge.due("none", x.undo(), STATE);
            Edge.due("n", x.count(0), 3);
            Edge.due("a", x.count(1), 4);
            Edge.due("cash", x.count(10), 9);
            Edge.due("owed", x.owed(0, 1, 0), 7);
            Edge.due("none still", x.undo(), STATE);
            Edge.due("taken", x.image(), 3);
            Edge.due("there is one", x.undo(), 3);
        });
        Edge.test(55, "n of THE IMAGE, whatever n is: from 5 to 2 and from 2 to 5", () -> {
            ClearingWaves x = Edge.told(5, 1, 2, "e=9;e>d=7;d>>>e=1");
            x.units(2, 4, 2, 3);
            x.image();
            x.houses(2);
            Edge.due("2", x.count(14), NONE);
            Edge.due("back to 5", x.undo(), 5);
            Edge.due("cash", x.count(14), 9);
            Edge.due("owed", x.owed(4, 3, 0), 7);
            Edge.due("owed", x.owed(3, 4, 2), 1);
            Edge.due("units", x.unitsOf(2, 4, 2), 3);
            x.houses(2);
            x.image();
            x.houses(5);
            x.cash(4, 1);
            x.units(2, 4, 2, 3);
            Edge.due("back to 2", x.undo(), 2);
            Edge.due("no house 4", x.count(14), NONE);
            x.houses(5);
            Edge.due("it has nothing", x.count(14) + x.unitsOf(2, 4, 2), 0);
        });
        Edge.test(55, "THE TAPE, THE PAPER and ROWS stay", () -> {
            ClearingWaves x = Edge.full();
            String page = Edge.page(x);
            x.image();
            x.feed('=');
            x.row(1, 2);
            x.set(0, 5, -5);
            x.cash(0, 2);
            x.spell();
            String later = Edge.page(x);
            Edge.same("another text", later, "a1:37/10 b2:433/100");
            Edge.same("the one before", page, "a1:47/10 b2:523/100");
            Edge.due("undo", x.undo(), 3);
            Edge.due("tape", x.count(5), 6);
            Edge.same("paper", Edge.page(x), later);
            Edge.due("row 0", x.get(0, 5), -5);
            Edge.due("row 1", x.get(1, 1), 0);
            Edge.due("row 2", x.set(2, 0, 1), NOTHING);
            Edge.feed(x, "7");
            Edge.due("what stands on the tape", x.read(), 2);
            Edge.due("cash", x.count(11), 9);
            Edge.due("cash", x.count(12), 7);
            Edge.due("the image is there still", x.undo(), 3);
            Edge.due("cash", x.count(11), 2);
        });
        Edge.test(55, "THE CLEARING and coins are by THE IMAGE then", () -> {
            ClearingWaves x = Edge.told(2, 10, 10, "a=4;a>b=5");
            x.image();
            x.cash(0, 5);
            Edge.due("holds", x.fails() + x.coinFails() + x.steps(), 0);
            x.undo();
            Edge.due("fails", x.fails(), 1);
            Edge.due("in coins", x.coinFails(), 1);
            Edge.due("steps", x.steps(), 1);
        });
    }

    public static void main(String[] args) {
        row();
        set();
        lay();
        judgeStates();
        judgeNumbers();
        judgeAgrees();
        image();
        Edge.end();
    }
}
