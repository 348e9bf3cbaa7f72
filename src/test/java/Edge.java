import java.util.ArrayList;
import java.util.List;

/**
 * What the tests of edges share. Each test names its promise and the sentence that it would fail
 * by. The numbers of answers are written here once more, so that no test leans on the class.
 */
final class Edge {
    static final int NONE = -1, BAD = -2, STATE = -3, FULL = -4, NOT_SO = -5, OVER = -6;
    static final int NOTHING = -11, BEYOND = -13, BELOW = -14;
    static final int MIN = Integer.MIN_VALUE, MAX = Integer.MAX_VALUE;
    static final long NO = Long.MIN_VALUE;
    static final long MOST_UNITS = 1000000000000L, MOST_BELOW = 1000000000000000L;

    // Both ends of int; numbers that are 0 or 1 when cut to a byte, to 16 bits or by a shift; and
    // those that come back into 0 .. 14 when they are multiplied by 3, 5 or 15.
    private static final int[] FAR = {MIN, MIN + 1, -1431655765, -858993459, -286331153, -65536, -256, -64, -32,
        -31, -5, -3, -2, -1, 2, 3, 4, 5, 6, 7, 8, 10, 11, 16, 20, 21, 31, 32, 33, 64, 128, 201, 255, 256, 257, 65536,
        65537, 286331153, 858993459, 858993460, 1431655766, 1 << 30, MAX - 1, MAX};

    private static final List<String> wrong = new ArrayList<>();
    private static int passed;
    private static int failed;

    interface Body {
        void run();
    }

    interface Doing {
        void on(ClearingWaves x);
    }

    interface Asking {
        long of(ClearingWaves x);
    }

    interface OfInt {
        long of(ClearingWaves x, int v);
    }

    private Edge() {
    }

    // ---- tests

    static void test(int promise, String sentence, Body body) {
        wrong.clear();
        try {
            body.run();
        } catch (RuntimeException | StackOverflowError e) {
            wrong.add("it threw " + e);
        }
        if (wrong.isEmpty()) {
            passed++;
        } else {
            failed++;
            System.out.println("FAILED promise " + promise + ": " + sentence + ": " + wrong);
        }
    }

    static void due(String what, long got, long want) {
        if (got != want) {
            wrong.add(what + " answered " + got + ", due is " + want);
        }
    }

    static void fraction(String what, long above, long below, long wantAbove, long wantBelow) {
        if (above != wantAbove || below != wantBelow) {
            wrong.add(what + " is " + above + " by " + below + ", due is " + wantAbove + " by " + wantBelow);
        }
    }

    static void same(String what, String got, String want) {
        if (!got.equals(want)) {
            wrong.add(what + " is \"" + got + "\", due is \"" + want + "\"");
        }
    }

    /** A call that is refused answers so, and leaves all that can be seen as it was. */
    static void refused(int promise, String why, long want, Asking call) {
        refused(promise, why, x -> { }, want, call);
    }

    static void refused(int promise, String why, Doing before, long want, Asking call) {
        test(promise, why + " is refused and changes nothing", () -> {
            ClearingWaves x = full();
            ClearingWaves y = full();
            before.on(x);
            before.on(y);
            due("the call", call.of(x), want);
            same("all that is seen then", look(x), look(y));
        });
    }

    /** Every number of FAR that isn't 0 .. n - 1, and n itself, is refused and changes nothing. */
    static void outside(int promise, String what, int n, long want, OfInt call) {
        between(promise, what, 0, n - 1, want, call);
    }

    static void between(int promise, String what, int least, int greatest, long want, OfInt call) {
        test(promise, what + " is " + least + " .. " + greatest + ", all else is refused and changes nothing", () -> {
            ClearingWaves x = full();
            due(what + " " + (least - 1), call.of(x, least - 1), want);
            due(what + " " + (greatest + 1), call.of(x, greatest + 1), want);
            for (int v : FAR) {
                if (v < least || v > greatest) {
                    due(what + " " + v, call.of(x, v), want);
                }
            }
            same("all that is seen then", look(x), look(full()));
        });
    }

    /** Every number of FAR that is below the least one, and the one just below it, is refused and changes nothing. */
    static void below(int promise, String what, int least, long want, OfInt call) {
        test(promise, what + " is " + least + " or more, what is below is refused and changes nothing", () -> {
            ClearingWaves x = full();
            due(what + " " + (least - 1), call.of(x, least - 1), want);
            for (int v : FAR) {
                if (v < least) {
                    due(what + " " + v, call.of(x, v), want);
                }
            }
            same("all that is seen then", look(x), look(full()));
        });
    }

    /** What is asked changes nothing, and is answered alike when it is asked again. */
    static void asked(int promise, String what, Asking call) {
        test(promise, what + " changes nothing", () -> {
            ClearingWaves x = full();
            long first = call.of(x);
            due("asked again", call.of(x), first);
            same("all that is seen then", look(x), look(full()));
        });
    }

    static void end() {
        System.out.println(passed + " passed, " + failed + " failed");
        System.exit(failed == 0 ? 0 : 1);
    }

    // ---- objects

    /** Told by cash() and owe() alone: "a=7;a>>b=6" as the document's texts have it. */
    static ClearingWaves told(int n, int a, int b, String debts) {
        ClearingWaves x = new ClearingWaves();
        x.houses(n);
        x.costs(a, b);
        tell(x, debts);
        return x;
    }

    static void tell(ClearingWaves x, String debts) {
        for (String one : debts.isEmpty() ? new String[0] : debts.split(";")) {
            int sign = one.indexOf('=');
            int v = Integer.parseInt(one.substring(sign + 1));
            int mark = one.lastIndexOf('>');
            if (mark < 0) {
                x.cash(one.charAt(0) - 'a', v);
            } else {
                x.owe(one.charAt(0) - 'a', one.charAt(sign - 1) - 'a', mark - 1, v);
            }
        }
    }

    /**
     * Something in every place that a call could change: houses 0 and 1 of three fail, in waves 1
     * and 2; THE IMAGE is of four other houses; ROW 0 has 20 longs, 1 has none, in 2 is nothing,
     * 3 has TOLD PARTS from place 1 on; THE TAPE is the begin of a text.
     */
    static ClearingWaves full() {
        ClearingWaves x = told(4, 2, 3, "d=11;d>>>a=13");
        x.units(2, 3, 0, 17);
        x.image();
        x.houses(3);
        x.costs(5, 9);
        tell(x, "a=4;b=2;c=6;a>b=10;b>c=8;c>>a=3;a>>>c=5;b>>>a=2");
        x.units(0, 0, 0, 5);
        x.units(1, 1, 2, 7);
        x.units(2, 2, 1, MOST_UNITS);
        x.row(0, 20);
        x.row(1, 0);
        x.row(3, 12);
        for (int i = 0; i < 20; i++) {
            x.set(0, i, 100 + i);
        }
        x.lay(3, 1);
        x.spell();
        feed(x, "b=9;c");
        return x;
    }

    static void feed(ClearingWaves x, String text) {
        for (int i = 0; i < text.length(); i++) {
            x.feed(text.charAt(i));
        }
    }

    static int read(ClearingWaves x, String text) {
        feed(x, text);
        return x.read();
    }

    // ---- looking

    /**
     * All that can be seen of an object, what stands on THE TAPE and what THE IMAGE holds as well,
     * so that nothing is as it was behind it.
     */
    static String look(ClearingWaves x) {
        StringBuilder seen = new StringBuilder();
        lookAtTold(x, seen);
        seen.append(" tape ").append(x.count(5)).append(" paper ").append(page(x)).append(" rows");
        for (int row = 0; row < 4; row++) {
            seen.append(' ').append(x.set(row, -1, 0)).append(':');
            for (int i = 0; i < 20; i++) {
                put(seen, x.get(row, i));
            }
        }
        seen.append(" clearing");
        put(seen, x.waves());
        put(seen, x.fails());
        put(seen, x.all(0, 0));
        put(seen, x.all(0, 1));
        put(seen, x.steps());
        feed(x, ">a=7");
        seen.append(" read ").append(x.read());
        lookAtTold(x, seen);
        seen.append(" undo ").append(x.undo());
        lookAtTold(x, seen);
        return seen.toString();
    }

    private static void lookAtTold(ClearingWaves x, StringBuilder seen) {
        int n = x.count(0);
        for (int what = 0; what < 3; what++) {
            put(seen, x.count(what));
        }
        seen.append(" cash");
        for (int house = 0; house < n; house++) {
            put(seen, x.count(10 + house));
        }
        for (int cls = 0; cls < 3; cls++) {
            seen.append(" owed ").append(cls);
            for (int k = 0; k < n * n; k++) {
                put(seen, k / n == k % n ? 0 : x.owed(k / n, k % n, cls));
            }
            for (int fund = 0; fund < 3; fund++) {
                seen.append(" units");
                for (int house = 0; house < n; house++) {
                    put(seen, x.unitsOf(fund, house, cls));
                }
            }
        }
    }

    private static void put(StringBuilder seen, long v) {
        seen.append(' ').append(v == NO ? "no" : Long.toString(v));
    }

    static String page(ClearingWaves x) {
        StringBuilder text = new StringBuilder();
        int length = x.count(6);
        for (int i = 0; i < length; i++) {
            text.append((char) x.paper(i));
        }
        return text.toString();
    }

    static String row(ClearingWaves x, int row, int n) {
        StringBuilder text = new StringBuilder();
        for (int i = 0; i < n; i++) {
            put(text, x.get(row, i));
        }
        return text.toString().trim();
    }
}
