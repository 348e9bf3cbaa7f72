import java.util.ArrayList;
import java.util.List;

/** Each promise by hand: ordinary calls, the edges that the document names, wrong calls. */
public final class PromiseTest {
    private static final long NO = Long.MIN_VALUE;
    private static final int MIN = Integer.MIN_VALUE;
    private static final int MAX = Integer.MAX_VALUE;
    private static final List<String> wrong = new ArrayList<>();
    private static int passed;
    private static int failed;

    private interface Body {
        void run();
    }

    private static void test(String name, Body body) {
        wrong.clear();
        try {
            body.run();
        } catch (RuntimeException | StackOverflowError e) {
            wrong.add(e.toString());
        }
        if (wrong.isEmpty()) {
            passed++;
        } else {
            failed++;
            System.out.println("FAILED " + name + ": " + wrong);
        }
    }

    private static void due(String call, long got, long want) {
        if (got != want) {
            wrong.add(call + " answered " + got + ", due is " + want);
        }
    }

    private static void fraction(String call, long above, long below, long wantAbove, long wantBelow) {
        due(call + " above", above, wantAbove);
        due(call + " below", below, wantBelow);
    }

    private static void fedText(ClearingWaves x, String text) {
        for (int i = 0; i < text.length(); i++) {
            x.feed(text.charAt(i));
        }
    }

    private static int readText(ClearingWaves x, String text) {
        fedText(x, text);
        return x.read();
    }

    private static String page(ClearingWaves x) {
        StringBuilder text = new StringBuilder();
        for (int i = 0; i < x.count(6); i++) {
            text.append((char) x.paper(i));
        }
        return text.toString();
    }

    private static void same(String what, String got, String want) {
        if (!got.equals(want)) {
            wrong.add(what + " is \"" + got + "\", due is \"" + want + "\"");
        }
    }

    private static ClearingWaves of(int n, int a, int b, String debts) {
        ClearingWaves x = new ClearingWaves();
        x.houses(n);
        x.costs(a, b);
        if (readText(x, debts) < 0) {
            wrong.add("the debts " + debts + " are not read");
        }
        return x;
    }

    /**
     * House 0 pays 2 of 10 (half its cash) in wave 1; house 1 gets them, has 4 for 8, and pays 1
     * and 2, 3 of 8, in wave 2.
     */
    private static ClearingWaves falling() {
        return of(3, 5, 10, "a=4;b=2;a>b=10;b>c=8");
    }

    /** Each owes the next one 1 and has nothing: waves 1, 2, 3, 4. */
    private static ClearingWaves row() {
        return of(5, 10, 10, "a>b=1;b>c=1;c>d=1;d>e=1");
    }

    /** 0 and 1 owe each other 10 first and then 5 to 2: the ring is paid whole by nothing. */
    private static ClearingWaves ringOfTwo(int b) {
        return of(3, 10, b, "a>b=10;b>a=10;a>>c=5;b>>c=5");
    }

    /** y0 = 1 + 7/10 y1, y1 = 7/10 y0: 100/51 of 19 and 70/51 of 17. */
    private static ClearingWaves fractions() {
        return of(3, 10, 7, "a=1;a>b=19;b>a=17;a>>c=20;b>>c=20");
    }

    /** House 0 has 7 for 4, 6 and 5 in classes 0, 1, 2. */
    private static ClearingWaves classes() {
        return of(2, 10, 10, "a=7;a>b=4;a>>b=6;a>>>b=5");
    }

    private static void told() {
        test("1 a new object", () -> {
            ClearingWaves x = new ClearingWaves();
            due("n", x.count(0), 2);
            due("a", x.count(1), 10);
            due("b", x.count(2), 10);
            due("cash", x.count(3), 0);
            due("due", x.count(4), 0);
            due("tape", x.count(5), 0);
            due("paper", x.count(6), 0);
            due("debts", x.count(7), 0);
            due("waves", x.waves(), 0);
            due("paper", x.paper(0), -1);
            due("row 3", x.get(3, 0), NO);
            due("no image", x.undo(), -3);
            due("units", x.unitsOf(2, 1, 2), 0);
            due("house 1", x.cash(1, 0), 0);
            due("house 2", x.cash(2, 0), -1);
        });
        test("2 houses", () -> {
            ClearingWaves x = new ClearingWaves();
            for (int n = 2; n <= 5; n++) {
                due("houses", x.houses(n), n);
                due("n", x.count(0), n);
                due("last", x.wave(n - 1), 0);
                due("behind", x.wave(n), -1);
            }
            readText(x, "a=9;a>b=20");
            x.costs(1, 2);
            x.units(1, 0, 1, 5);
            x.row(1, 3);
            x.set(1, 2, 8);
            x.spell();
            x.image();
            x.feed(97);
            for (int n : new int[] {1, 6, 0, -1, MIN, MAX}) {
                due("houses " + n, x.houses(n), -2);
            }
            due("cash stays", x.count(3), 9);
            due("houses", x.houses(3), 3);
            due("cash", x.count(3), 0);
            due("due", x.count(4), 0);
            due("a", x.count(1), 10);
            due("b", x.count(2), 10);
            due("units", x.unitsOf(1, 0, 1), 0);
            due("row", x.get(1, 2), 8);
            due("tape", x.count(5), 1);
            due("paper", x.count(6), 7);
            due("image", x.undo(), 5);
            due("cash", x.count(3), 9);
        });
        test("3 cash", () -> {
            ClearingWaves x = new ClearingWaves();
            due("first", x.cash(0, 200), 0);
            due("second", x.cash(0, 7), 200);
            due("above", x.cash(0, 201), -2);
            due("below", x.cash(0, -1), -2);
            due("far", x.cash(0, MAX), -2);
            due("house 2", x.cash(2, 7), -1);
            due("house -1", x.cash(-1, 7), -1);
            due("both", x.cash(MAX, 201), -1);
            due("kept", x.cash(0, 0), 7);
            due("the other", x.cash(1, 0), 0);
        });
        test("4 owe", () -> {
            ClearingWaves x = new ClearingWaves();
            due("first", x.owe(0, 1, 2, 20), 0);
            due("second", x.owe(0, 1, 2, 5), 20);
            due("other way", x.owe(1, 0, 2, 1), 0);
            due("other class", x.owe(0, 1, 1, 1), 0);
            due("itself", x.owe(0, 0, 2, 1), -1);
            due("from 2", x.owe(2, 0, 2, 1), -1);
            due("to 2", x.owe(0, 2, 2, 1), -1);
            due("class 3", x.owe(0, 1, 3, 1), -1);
            due("class -1", x.owe(0, 1, -1, 1), -1);
            due("both", x.owe(0, MIN, 0, 21), -1);
            due("above", x.owe(0, 1, 2, 21), -2);
            due("below", x.owe(0, 1, 2, -1), -2);
            due("kept", x.owed(0, 1, 2), 5);
        });
        test("5 owed", () -> {
            ClearingWaves x = of(5, 10, 10, "a>b=1;b>a=2;e>>>d=20");
            due("a to b", x.owed(0, 1, 0), 1);
            due("b to a", x.owed(1, 0, 0), 2);
            due("e to d", x.owed(4, 3, 2), 20);
            due("none", x.owed(4, 3, 1), 0);
            due("itself", x.owed(1, 1, 0), -1);
            due("house 5", x.owed(5, 1, 0), -1);
            due("house -1", x.owed(1, -1, 0), -1);
            due("class 3", x.owed(0, 1, 3), -1);
            due("class -1", x.owed(0, 1, -1), -1);
        });
        test("6 costs", () -> {
            ClearingWaves x = new ClearingWaves();
            due("some", x.costs(0, 10), 1);
            due("a", x.count(1), 0);
            due("b", x.count(2), 10);
            due("a 11", x.costs(11, 0), -2);
            due("b 11", x.costs(0, 11), -2);
            due("a -1", x.costs(-1, 0), -2);
            due("b -1", x.costs(0, -1), -2);
            due("a kept", x.count(1), 0);
            due("b kept", x.count(2), 10);
        });
        test("7 cede", () -> {
            ClearingWaves x = of(3, 10, 10, "a>b=9;a>c=15");
            due("some", x.cede(0, 1, 2, 0, 5), 1);
            due("left", x.owed(0, 1, 0), 4);
            due("third", x.owed(0, 2, 0), 20);
            due("nothing else", x.owed(1, 2, 0), 0);
            due("full", x.cede(0, 1, 2, 0, 1), -4);
            due("state", x.cede(0, 1, 2, 0, 5), -3);
            due("state, far", x.cede(0, 1, 2, 0, MAX), -3);
            due("state, class", x.cede(0, 1, 2, 1, 1), -3);
            due("bad", x.cede(0, 1, 2, 0, 0), -2);
            due("bad, far", x.cede(0, 1, 2, 0, MIN), -2);
            due("from is to", x.cede(0, 0, 2, 0, 0), -1);
            due("from is third", x.cede(0, 1, 0, 0, 1), -1);
            due("to is third", x.cede(0, 1, 1, 0, 1), -1);
            due("third 3", x.cede(0, 1, 3, 0, 1), -1);
            due("class", x.cede(0, 1, 2, 3, 1), -1);
            due("kept", x.owed(0, 1, 0), 4);
            due("all back", x.cede(0, 2, 1, 0, 16), 1);
            due("full by all", x.owed(0, 1, 0), 20);
        });
        test("8 settle", () -> {
            ClearingWaves x = of(3, 10, 10, "a=6;b=196;a>b=9;a>c=7");
            due("some", x.settle(0, 1, 0, 4), 1);
            due("owed", x.owed(0, 1, 0), 5);
            due("cash", x.count(10), 2);
            due("theirs", x.count(11), 200);
            due("full", x.settle(0, 1, 0, 1), -4);
            due("no cash", x.settle(0, 2, 0, 3), -3);
            due("not owed", x.settle(0, 1, 0, 6), -3);
            due("not owed, far", x.settle(0, 1, 0, MAX), -3);
            due("other class", x.settle(0, 1, 1, 1), -3);
            due("state is ahead of full", x.settle(0, 1, 0, 3), -3);
            due("bad", x.settle(0, 1, 0, 0), -2);
            due("bad", x.settle(0, 1, 0, -5), -2);
            due("itself", x.settle(0, 0, 0, 0), -1);
            due("house", x.settle(3, 0, 0, 1), -1);
            due("class", x.settle(0, 1, -1, 1), -1);
            due("kept", x.count(11), 200);
            due("to c", x.settle(0, 2, 0, 2), 1);
            due("c", x.count(12), 2);
        });
        test("9 feed", () -> {
            ClearingWaves x = new ClearingWaves();
            due("least", x.feed(1), 1);
            due("greatest", x.feed(127), 2);
            due("0", x.feed(0), -2);
            due("128", x.feed(128), -2);
            due("-1", x.feed(-1), -2);
            for (int k = 3; k <= 120; k++) {
                due("byte", x.feed('a'), k);
            }
            due("full", x.feed('a'), -4);
            due("bad is ahead of full", x.feed(0), -2);
            due("length", x.count(5), 120);
        });
        test("10 clear", () -> {
            ClearingWaves x = new ClearingWaves();
            due("nothing", x.clear(), 0);
            x.feed('a');
            x.feed('=');
            due("two", x.clear(), 2);
            due("empty", x.count(5), 0);
            due("first again", x.feed('b'), 1);
        });
        test("11 read", PromiseTest::texts);
    }

    private static void texts() {
        ClearingWaves x = new ClearingWaves();
        x.houses(3);
        due("cash", readText(x, "a=12"), 1);
        due("empty then", x.count(5), 0);
        due("cash of a", x.count(10), 12);
        due("all kinds, in turn", readText(x, "a=200;a>b=20;b>>c=07;c>>>a=0;a=003;a>b=5"), 6);
        due("cash of a", x.count(10), 3);
        due("class 0", x.owed(0, 1, 0), 5);
        due("class 1", x.owed(1, 2, 1), 7);
        String[] texts = {"", "d=1", "a", "a=", "a=;", "a=1;", "a=1,b=1", "a=201", "a=2010", "a=2000",
            "a=999x", "a>", "a>b", "a>b=", "a>a=1", "a>d=1", "a>>>>b=1", "a>b=21", "a>b=99;x", "a>b=200",
            "a>b=1;;", "A=1", "a==1", "a=1;b>c=2;c", "a b=1", "a=-1", "ab=1", "a>=1", "a=20;a=300", "=1",
            "a>>", "a=1;e=1", "f=1", "a>b>c=1", "a=1 "};
        int[] faults = {0, 0, 1, 2, 2, 4, 3, 2, 2, 5,
            2, 2, 3, 4, 2, 2, 4, 4, 4, 6,
            6, 0, 2, 11, 1, 2, 1, 2, 7, 0,
            3, 4, 0, 3, 3};
        for (int k = 0; k < texts.length; k++) {
            due("fault of " + texts[k], readText(x, texts[k]), -100 - faults[k]);
            due("empty behind " + texts[k], x.count(5), 0);
        }
        x = of(3, 10, 10, "a=3;a>b=5;b>>c=7");
        readText(x, "b=9;c=9;a>c=9;a=1;");
        due("a text with a fault does nothing", x.count(3), 3);
        due("a holds", x.fails(), 2 + 1);
        readText(x, "a=5;b=7");
        due("then both hold", x.fails(), 0);
        readText(x, "a=3;b=0");
        due("then not", x.fails(), 3);
        due("owed stays", x.owed(0, 2, 0), 0);
        x.houses(5);
        due("e", readText(x, "e=1;a>e=1"), 2);
        due("120 bytes", readText(x, "a=1;".repeat(29) + "b=22"), 30);
        due("40 parts can't be: 3 bytes each and ;", readText(x, "a=1;".repeat(30)), -220);
    }

    private static void clearing() {
        test("12 waves", () -> {
            due("none", new ClearingWaves().waves(), 0);
            due("two", falling().waves(), 2);
            due("four", row().waves(), 4);
            ClearingWaves x = falling();
            x.cash(0, 10);
            due("told anew", x.waves(), 0);
            due("just enough", of(2, 10, 10, "a=5;a>b=5").waves(), 0);
            due("one short", of(2, 10, 10, "a=4;a>b=5").waves(), 1);
        });
        test("13 wave", () -> {
            ClearingWaves x = falling();
            due("a", x.wave(0), 1);
            due("b", x.wave(1), 2);
            due("c", x.wave(2), 0);
            due("d", x.wave(3), -1);
            due("-1", x.wave(-1), -1);
            due("far", x.wave(MIN), -1);
            due("d of five", row().wave(3), 4);
            due("e of five", row().wave(4), 0);
        });
        test("14 fails", () -> {
            due("none", new ClearingWaves().fails(), 0);
            due("falling", falling().fails(), 3);
            due("row", row().fails(), 15);
            due("without costs a ring holds", of(3, 10, 10, "a>b=9;b>c=9;c>a=9").fails(), 0);
        });
        test("15 part", PromiseTest::parts);
        test("16 partIn", () -> {
            ClearingWaves x = falling();
            fraction("round 0", x.partIn(0, 0, 0, 0), x.partIn(0, 0, 0, 1), 1, 1);
            fraction("round 1, a", x.partIn(1, 0, 0, 0), x.partIn(1, 0, 0, 1), 1, 5);
            fraction("round 1, b pays all", x.partIn(1, 1, 0, 0), x.partIn(1, 1, 0, 1), 1, 1);
            fraction("round 2", x.partIn(2, 1, 0, 0), x.partIn(2, 1, 0, 1), 3, 8);
            due("round 3", x.partIn(3, 0, 0, 0), NO);
            due("round -1", x.partIn(-1, 0, 0, 0), NO);
            due("house 3", x.partIn(0, 3, 0, 0), NO);
            due("class 3", x.partIn(0, 0, 3, 0), NO);
            due("class -1", x.partIn(0, 0, -1, 0), NO);
            due("which 2", x.partIn(0, 0, 0, 2), NO);
            due("which -1", x.partIn(2, 0, 0, -1), NO);
            due("far", x.partIn(MAX, MAX, MAX, MAX), NO);
            due("at first", new ClearingWaves().partIn(0, 1, 2, 0), 1);
            due("at first", new ClearingWaves().partIn(1, 1, 2, 0), NO);
        });
        test("17 paid", () -> {
            ClearingWaves x = falling();
            fraction("a to b", x.paid(0, 1, 0, 0), x.paid(0, 1, 0, 1), 2, 1);
            fraction("b to c", x.paid(1, 2, 0, 0), x.paid(1, 2, 0, 1), 3, 1);
            fraction("nothing", x.paid(2, 1, 1, 0), x.paid(2, 1, 1, 1), 0, 1);
            due("itself", x.paid(1, 1, 0, 0), NO);
            due("from", x.paid(3, 1, 0, 0), NO);
            due("to", x.paid(1, -1, 0, 0), NO);
            due("class", x.paid(0, 1, 3, 0), NO);
            due("which", x.paid(0, 1, 0, 2), NO);
            ClearingWaves y = fractions();
            fraction("a to b", y.paid(0, 1, 0, 0), y.paid(0, 1, 0, 1), 100, 51);
        });
        test("18 gets", () -> {
            ClearingWaves x = falling();
            fraction("a", x.gets(0, 0), x.gets(0, 1), 0, 1);
            fraction("b", x.gets(1, 0), x.gets(1, 1), 2, 1);
            fraction("c", x.gets(2, 0), x.gets(2, 1), 3, 1);
            due("d", x.gets(3, 0), NO);
            due("which", x.gets(2, 2), NO);
            ClearingWaves y = fractions();
            fraction("a", y.gets(0, 0), y.gets(0, 1), 70, 51);
            fraction("added up", classes().gets(1, 0), classes().gets(1, 1), 7, 1);
        });
        test("19 worthIn", () -> {
            ClearingWaves x = falling();
            long[] worth = {4, 12, 8, 4, 4, 8, 4, 4, 3};
            for (int k = 0; k < 9; k++) {
                fraction("worth " + k, x.worthIn(k / 3, k % 3, 0), x.worthIn(k / 3, k % 3, 1), worth[k], 1);
            }
            due("round 3", x.worthIn(3, 0, 0), NO);
            due("round -1", x.worthIn(-1, 0, 0), NO);
            due("house", x.worthIn(0, 3, 0), NO);
            due("which", x.worthIn(0, 0, 2), NO);
            fraction("a fraction", fractions().worthIn(1, 0, 0), fractions().worthIn(1, 0, 1), 121, 51);
        });
        test("20 left", () -> {
            ClearingWaves x = falling();
            fraction("a fails", x.left(0, 0), x.left(0, 1), 0, 1);
            fraction("c", x.left(2, 0), x.left(2, 1), 3, 1);
            due("house", x.left(3, 0), NO);
            due("which", x.left(2, -1), NO);
            ClearingWaves y = of(2, 10, 10, "a=9;a>b=3;a>>>b=4");
            fraction("less due", y.left(0, 0), y.left(0, 1), 2, 1);
            fraction("due and gets", y.left(1, 0), y.left(1, 1), 7, 1);
        });
        test("21 lost", () -> {
            ClearingWaves x = falling();
            fraction("a", x.lost(0, 0), x.lost(0, 1), 2, 1);
            fraction("b", x.lost(1, 0), x.lost(1, 1), 1, 1);
            fraction("c holds", x.lost(2, 0), x.lost(2, 1), 0, 1);
            due("house", x.lost(-1, 0), NO);
            due("which", x.lost(0, 2), NO);
            ClearingWaves y = fractions();
            fraction("a of fractions", y.lost(0, 0), y.lost(0, 1), 7, 17);
        });
        test("22 lacks", () -> {
            ClearingWaves x = falling();
            fraction("b from a", x.lacks(1, 0, 0), x.lacks(1, 0, 1), 8, 1);
            fraction("c from b", x.lacks(2, 1, 0), x.lacks(2, 1, 1), 5, 1);
            fraction("a from b", x.lacks(0, 1, 0), x.lacks(0, 1, 1), 0, 1);
            due("itself", x.lacks(1, 1, 0), NO);
            due("house", x.lacks(3, 1, 0), NO);
            due("from", x.lacks(1, 3, 0), NO);
            due("which", x.lacks(1, 0, 2), NO);
            fraction("all classes", classes().lacks(1, 0, 0), classes().lacks(1, 0, 1), 8, 1);
        });
        test("23 all", () -> {
            ClearingWaves x = falling();
            fraction("paid", x.all(0, 0), x.all(0, 1), 5, 1);
            fraction("left", x.all(1, 0), x.all(1, 1), 3, 1);
            fraction("lost", x.all(2, 0), x.all(2, 1), 3, 1);
            due("what 3", x.all(3, 0), NO);
            due("what -1", x.all(-1, 0), NO);
            due("which 2", x.all(0, 2), NO);
            due("which -1", x.all(2, -1), NO);
            ClearingWaves y = fractions();
            fraction("paid", y.all(0, 0), y.all(0, 1), 10, 3);
            fraction("lost", y.all(2, 0), y.all(2, 1), 1, 1);
            fraction("left", y.all(1, 0), y.all(1, 1), 0, 1);
        });
    }

    private static void parts() {
        ClearingWaves x = classes();
        fraction("whole", x.part(0, 0, 0), x.part(0, 0, 1), 1, 1);
        fraction("in part", x.part(0, 1, 0), x.part(0, 1, 1), 1, 2);
        fraction("not at all", x.part(0, 2, 0), x.part(0, 2, 1), 0, 1);
        fraction("nothing due", x.part(1, 2, 0), x.part(1, 2, 1), 1, 1);
        due("house", x.part(2, 0, 0), NO);
        due("class", x.part(0, 3, 0), NO);
        due("class", x.part(0, -1, 0), NO);
        due("which", x.part(0, 0, 2), NO);
        x.owe(0, 1, 1, 0);
        fraction("a class with nothing due between", x.part(0, 1, 0), x.part(0, 1, 1), 1, 1);
        fraction("the class behind it", x.part(0, 2, 0), x.part(0, 2, 1), 3, 5);
        x.cash(0, 4);
        fraction("ends where a class ends", x.part(0, 0, 0), x.part(0, 0, 1), 1, 1);
        fraction("nothing is left", x.part(0, 2, 0), x.part(0, 2, 1), 0, 1);
        x.cash(0, 9);
        due("it holds", x.part(0, 2, 0), 1);
        ClearingWaves whole = ringOfTwo(10);
        due("both fail", whole.fails(), 3);
        fraction("the greatest that agree", whole.part(0, 0, 0), whole.part(0, 0, 1), 1, 1);
        fraction("nothing is left", whole.part(1, 1, 0), whole.part(1, 1, 1), 0, 1);
        ClearingWaves lost = ringOfTwo(9);
        fraction("costs eat the ring", lost.part(0, 0, 0), lost.part(0, 0, 1), 0, 1);
        ClearingWaves y = fractions();
        fraction("a", y.part(0, 0, 0), y.part(0, 0, 1), 100, 969);
        fraction("b", y.part(1, 0, 0), y.part(1, 0, 1), 70, 867);
        // A ring whose debts leak to the third, so that just nothing agrees.
        ClearingWaves leak = of(3, 10, 10, "a>b=10;b>a=10;a>c=1;b>>c=5");
        fraction("a leak empties a", leak.part(0, 0, 0), leak.part(0, 0, 1), 0, 1);
        fraction("and b", leak.part(1, 0, 0), leak.part(1, 0, 1), 0, 1);
        // The ring stays whole, too, when another house falls a wave later.
        ClearingWaves later = of(4, 10, 10, "a>b=10;b>a=10;a>>c=5;b>>c=5;c>d=10");
        due("two waves", later.waves(), 2);
        fraction("the ring still", later.part(0, 0, 0), later.part(1, 0, 0), 1, 1);
        fraction("nothing for c", later.part(0, 1, 0), later.part(2, 0, 0), 0, 0);
        // Two rings of different classes: the second begins to be emptied, where the first holds.
        ClearingWaves deep = of(3, 10, 10, "a>b=10;b>a=10;a>>b=8;b>>a=6;a>>>c=9;b>>>c=9");
        fraction("the ring of class 0", deep.part(0, 0, 0), deep.part(1, 0, 0), 1, 1);
        fraction("a pays what b can", deep.part(0, 1, 0), deep.part(0, 1, 1), 3, 4);
        fraction("b pays what it gets", deep.part(1, 1, 0), deep.part(1, 1, 1), 1, 1);
    }

    private static void causes() {
        test("24 cause", () -> {
            ClearingWaves x = falling();
            due("a is of wave 1", x.cause(0), -5);
            due("b", x.cause(1), 0);
            due("c holds", x.cause(2), -3);
            due("d", x.cause(3), -1);
            due("-1", x.cause(-1), -1);
            due("of several the least", of(4, 10, 10, "a>c=3;b>c=3;c>d=6").cause(2), 0);
            due("most", of(4, 10, 10, "a>c=3;b>c=4;c>d=7").cause(2), 1);
            // In round 1 house 2 lacks 3 from 0 and 2 from 1; in the clearing 3 and 4.
            ClearingWaves y = of(4, 10, 10, "b=1;a>c=3;b>c=5;c>>b=2;c>d=6");
            due("wave", y.wave(2), 2);
            fraction("lacks", y.lacks(2, 1, 0), y.lacks(2, 1, 1), 4, 1);
            due("in the round ahead of its wave", y.cause(2), 0);
        });
        test("25 chain", () -> {
            ClearingWaves x = row();
            int[] chain = {3, 2, 1, 0, -5};
            for (int k = 0; k < 5; k++) {
                due("chain " + k, x.chain(3, k), chain[k]);
            }
            due("a", x.chain(0, 0), 0);
            due("a", x.chain(0, 1), -5);
            due("e holds", x.chain(4, 0), -3);
            due("k 5", x.chain(3, 5), -1);
            due("k -1", x.chain(3, -1), -1);
            due("house", x.chain(5, 0), -1);
            due("k of one that holds", x.chain(4, 5), -1);
            ClearingWaves y = of(5, 10, 5, "a>b=4;b>c=4;c>d=4;d>e=4;e>a=2");
            due("five waves", y.waves(), 5);
            for (int k = 0; k < 5; k++) {
                due("all five, chain " + k, y.chain(4, k), 4 - k);
            }
        });
        test("26 root", () -> {
            ClearingWaves x = row();
            for (int k = 0; k < 4; k++) {
                due("root", x.root(k), 0);
            }
            due("holds", x.root(4), -3);
            due("house", x.root(5), -1);
            due("house", x.root(-1), -1);
            ClearingWaves y = of(4, 10, 10, "a>c=3;b>c=4;c>d=7");
            due("root of c", y.root(2), 1);
            due("root of a", y.root(0), 0);
        });
        test("27 pulls", () -> {
            ClearingWaves x = row();
            int[] pulls = {4, 3, 2, 1, 0};
            for (int k = 0; k < 5; k++) {
                due("pulls " + k, x.pulls(k), pulls[k]);
            }
            due("house", x.pulls(5), -1);
            due("house", x.pulls(MIN), -1);
            ClearingWaves y = of(4, 10, 10, "a>c=3;b>c=4;c>d=7");
            due("a alone", y.pulls(0), 1);
            due("b and c", y.pulls(1), 2);
            due("holds", y.pulls(3), 0);
        });
    }

    private static void coins() {
        test("28 coin", () -> {
            ClearingWaves x = falling();
            due("a to b", x.coin(0, 1, 0), 2);
            due("b to c", x.coin(1, 2, 0), 3);
            due("nothing", x.coin(1, 2, 1), 0);
            due("itself", x.coin(0, 0, 0), -1);
            due("house", x.coin(3, 0, 0), -1);
            due("to", x.coin(0, 3, 0), -1);
            due("class", x.coin(0, 1, 3), -1);
            // 9 of 15 in class 0 whole, then 4 coins for 5 and 6: 20 / 11 and 24 / 11, cut.
            ClearingWaves y = of(3, 10, 10, "a=9;a>b=5;a>>b=5;a>>c=6;a>>>c=4");
            due("whole", y.coin(0, 1, 0), 5);
            due("cut", y.coin(0, 1, 1), 1);
            due("cut", y.coin(0, 2, 1), 2);
            due("behind", y.coin(0, 2, 2), 0);
            y.cash(0, 20);
            due("all", y.coin(0, 2, 2), 4);
            y.costs(5, 5);
            due("costs are for those that fail", y.coin(0, 2, 2), 4);
        });
        test("29 steps", () -> {
            due("none", new ClearingWaves().steps(), 0);
            due("two", falling().steps(), 2);
            due("four", row().steps(), 4);
            // Nine tenths, cut, each time: 7 6 5 4 3 2 1 0, both at once.
            ClearingWaves x = of(3, 0, 9, "a>b=8;b>a=8;a>>c=1;b>>c=1");
            due("down by one each time", x.steps(), 8);
            due("to nothing", x.coin(0, 1, 0), 0);
        });
        test("30 coinFails", () -> {
            due("none", new ClearingWaves().coinFails(), 0);
            due("falling", falling().coinFails(), 3);
            due("row", row().coinFails(), 15);
            // A cut coin fails d, where the clearing holds it: a pays 3 of 4 to b, c, d and e.
            ClearingWaves x = of(4, 10, 10, "a=4;a>b=3;a>c=3;b>>d=2;b=0");
            due("by fractions b holds", x.fails(), 1);
            due("in coins too", x.coinFails(), 1);
            x.cash(0, 3);
            due("by fractions b fails", x.fails(), 3);
            due("in coins", x.coinFails(), 3);
            ClearingWaves y = of(4, 10, 10, "a=5;a>b=3;a>c=4;b=0;c>d=2;c=0;b>d=2");
            due("b has 15 by 7", y.fails(), 1);
            due("b has 2", y.coinFails(), 1);
            y.owe(2, 3, 1, 1);
            due("c has 20 by 7 for 3", y.fails(), 5);
        });
        test("31 gone", () -> {
            due("none", new ClearingWaves().gone(), 0);
            due("falling", falling().gone(), 3);
            // 7 tenths of 5 are 3, cut: 2 are gone.
            due("cut", of(2, 7, 10, "a=5;a>b=9").gone(), 2);
            due("no costs", classes().gone(), 0);
        });
    }

    private static void comeAndGo() {
        test("32 saved", () -> {
            ClearingWaves x = falling();
            due("0", x.saved(0, 0), 3);
            due("5 to a", x.saved(5, 0), 3);
            due("6 to a", x.saved(6, 0), 0);
            due("3 to b", x.saved(3, 1), 3);
            due("4 to b", x.saved(4, 1), 1);
            due("200 to c", x.saved(200, 2), 3);
            due("201", x.saved(201, 0), -2);
            due("-1", x.saved(-1, 0), -2);
            due("house", x.saved(0, 3), -1);
            due("both", x.saved(-1, -1), -1);
            due("nothing is changed", x.fails(), 3);
            due("cash", x.count(10), 4);
            // 240 due, and 200 cash: above 200 too.
            ClearingWaves y = of(5, 10, 10,
                "a=200;a>b=20;a>c=20;a>d=20;a>e=20;a>>b=20;a>>c=20;a>>d=20;a>>e=20;a>>>b=20;a>>>c=20;a>>>d=20");
            due("fails", y.fails(), 1);
            due("19", y.saved(19, 0), 1);
            due("20", y.saved(20, 0), 0);
        });
        test("33 struck", () -> {
            ClearingWaves x = falling();
            x.cash(0, 12);
            due("0", x.struck(0, 0), 0);
            due("2", x.struck(2, 0), 0);
            due("3: b has 2 and half of 9", x.struck(3, 0), 3);
            due("200: 0 at least", x.struck(200, 0), 3);
            due("b needs nothing", x.struck(200, 1), 0);
            due("201", x.struck(201, 0), -2);
            due("-1", x.struck(-1, 0), -2);
            due("house", x.struck(0, 3), -1);
            due("nothing is changed", x.fails(), 0);
            due("cash", x.count(10), 12);
        });
        test("34 saves", () -> {
            ClearingWaves x = of(3, 10, 10, "a>c=1;b>c=20");
            due("fewest fail", x.saves(5, 0), 0);
            due("most paid", x.saves(5, 1), 1);
            due("of several the least", x.saves(0, 0), 0);
            due("of several the least", x.saves(0, 1), 0);
            due("how 2", x.saves(5, 2), -1);
            due("how -1", x.saves(5, -1), -1);
            due("201", x.saves(201, 0), -2);
            due("-1", x.saves(-1, 1), -2);
            due("both", x.saves(-1, 2), -1);
            due("nothing is changed", x.count(3), 0);
            due("as many fail, the most paid", of(3, 10, 10, "b>a=10;a>c=10").saves(1, 0), 1);
            due("as much paid, the fewest fail", of(3, 10, 10, "a>c=20;b>c=5").saves(5, 1), 1);
        });
        test("35 needs", () -> {
            ClearingWaves x = falling();
            due("a by itself", x.needs(0, 0), 6);
            due("b by a", x.needs(1, 0), 6);
            due("b by itself", x.needs(1, 1), 4);
            due("a by b", x.needs(0, 1), -5);
            due("c holds", x.needs(2, 0), 0);
            due("house", x.needs(3, 0), -1);
            due("to", x.needs(0, 3), -1);
            due("-1", x.needs(-1, 0), -1);
            due("cash stays", x.count(10), 4);
            ClearingWaves y = of(5, 0, 10,
                "a>b=20;a>c=20;a>d=20;a>e=20;a>>b=20;a>>c=20;a>>d=20;a>>e=20;a>>>b=20;a>>>c=20");
            due("200 is enough", y.needs(0, 0), 200);
            y.owe(0, 3, 2, 1);
            due("201 isn't there", y.needs(0, 0), -5);
        });
        test("36 calms", () -> {
            ClearingWaves x = falling();
            due("by a", x.calms(0), 6);
            due("by b", x.calms(1), -5);
            due("by c", x.calms(2), -5);
            due("house", x.calms(3), -1);
            due("house", x.calms(-1), -1);
            due("none fails", new ClearingWaves().calms(1), 0);
        });
        test("37 danger", () -> {
            due("at first", new ClearingWaves().danger(), 0);
            ClearingWaves x = of(3, 10, 10, "a=5;b=5;b>c=5;c>a=5");
            due("b", x.danger(), 1);
            due("nothing is changed", x.fails(), 0);
            due("of several the least", falling().danger(), 0);
            due("c", of(3, 10, 10, "a=1;c=9;a>b=1;c>a=9;b=0;b>a=1").danger(), 2);
            due("the last", of(3, 10, 10, "c=9;a>b=9;c>a=9").danger(), 2);
        });
        test("38 rescue", PromiseTest::rescues);
    }

    private static void rescues() {
        ClearingWaves x = falling();
        due("nothing there", x.rescue(0, 0, 2, 2, 0), -11);
        x.row(0, 4);
        x.row(1, 2);
        due("two to a", x.rescue(0, 1, 2, 2, 0), 3);
        due("ahead", x.get(0, 0), 0);
        due("a", x.get(0, 1), 4);
        due("b", x.get(0, 2), 0);
        due("c", x.get(0, 3), 0);
        due("three to a", x.rescue(0, 0, 2, 3, 1), 0);
        due("a", x.get(0, 0), 6);
        due("not all are laid", x.rescue(0, 3, 3, 1, 0), -13);
        due("the first is", x.get(0, 3), 3);
        due("none at the end", x.rescue(0, 4, 3, 1, 0), -13);
        due("none far off", x.rescue(0, MAX, 3, 1, 0), -13);
        x.set(1, 0, 77);
        due("below 0", x.rescue(1, -1, 3, 1, 0), -13);
        due("none is laid", x.get(1, 0), 77);
        due("how", x.rescue(0, 0, 0, 0, 2), -1);
        due("row", x.rescue(4, 0, 0, 0, 0), -1);
        due("row", x.rescue(-1, 0, 1, 1, 0), -1);
        due("x 0", x.rescue(3, 0, 0, 1, 0), -2);
        due("x 31", x.rescue(0, 0, 31, 1, 0), -2);
        due("many 0", x.rescue(0, 0, 1, 0, 0), -2);
        due("many 7", x.rescue(0, 0, 1, 7, 0), -2);
        due("30 and 6", x.rescue(0, 0, 30, 6, 0), 0);
        due("all to a, the least of several then", x.get(0, 0), 180);
        due("nothing is changed", x.fails(), 3);
        due("cash", x.count(3), 6);
        ClearingWaves y = of(3, 10, 10, "a>c=1;b>c=20");
        y.row(2, 3);
        due("to a, then to b", y.rescue(2, 0, 20, 2, 0), 0);
        due("a", y.get(2, 0), 20);
        due("b", y.get(2, 1), 20);
        due("how 1: to b, then to a", y.rescue(2, 0, 5, 2, 1), 3);
        due("b", y.get(2, 1), 10);
    }

    private static void rings() {
        test("39 ring", () -> {
            ClearingWaves x = of(5, 10, 10, "b>c=5;c>b=5;c>d=4;d>b=4;c>>a=1;a>>c=1;e>b=1");
            due("0", x.ring(0, 0), 1);
            due("1", x.ring(0, 1), 2);
            due("the shorter is ahead", x.ring(0, 2), -5);
            due("class 1", x.ring(1, 0), 0);
            due("class 1", x.ring(1, 1), 2);
            due("class 2", x.ring(2, 0), -5);
            due("class 3", x.ring(3, 0), -1);
            due("class -1", x.ring(-1, 0), -1);
            due("k 5", x.ring(0, 5), -1);
            due("k -1", x.ring(2, -1), -1);
            due("k 4", x.ring(0, 4), -5);
            // 0 3 1 is behind 0 2 3, though 0 2 goes on longer.
            ClearingWaves y = of(5, 10, 10, "a>d=1;d>b=1;b>a=1;a>c=1;c>e=1;e>d=1;d>a=1");
            int[] ring = {0, 2, 4, 3, -5};
            for (int k = 0; k < 5; k++) {
                due("place " + k, y.ring(0, k), ring[k]);
            }
            ClearingWaves z = of(5, 10, 10, "a>e=1;e>d=1;d>c=1;c>b=1;b>a=1");
            int[] five = {0, 4, 3, 2, 1};
            for (int k = 0; k < 5; k++) {
                due("of five " + k, z.ring(0, k), five[k]);
            }
        });
        test("40 net", () -> {
            ClearingWaves x = of(3, 10, 10, "a>b=5;b>a=3;b>c=9;c>a=4;a>>b=2;b>>a=2");
            due("3 and 3, then 2 and 2 and 2", x.net(0), 12);
            due("a to b", x.owed(0, 1, 0), 0);
            due("b to a", x.owed(1, 0, 0), 0);
            due("b to c", x.owed(1, 2, 0), 7);
            due("c to a", x.owed(2, 0, 0), 2);
            due("class 1 stays", x.owed(0, 1, 1), 2);
            due("no ring any more", x.net(0), 0);
            due("class 1", x.net(1), 4);
            due("class 3", x.net(3), -1);
            due("class -1", x.net(-1), -1);
            due("fails by what is owed then", x.fails(), 6);
        });
    }

    private static void funds() {
        test("41 units", () -> {
            ClearingWaves x = new ClearingWaves();
            due("first", x.units(0, 0, 0, 1000000000000L), 0);
            due("second", x.units(0, 0, 0, 0), 1000000000000L);
            due("above", x.units(2, 1, 2, 1000000000001L), -2);
            due("below", x.units(2, 1, 2, -1), -2);
            due("far", x.units(2, 1, 2, NO), -2);
            due("fund 3", x.units(3, 0, 0, 1), -1);
            due("fund -1", x.units(-1, 0, 0, 1), -1);
            due("house 2", x.units(0, 2, 0, 1), -1);
            due("class 3", x.units(0, 0, 3, -1), -1);
            due("third", x.units(2, 1, 2, 9), 0);
            due("kept", x.units(2, 1, 2, 9), 9);
        });
        test("42 unitsOf", () -> {
            ClearingWaves x = new ClearingWaves();
            x.units(1, 1, 2, 7);
            due("those", x.unitsOf(1, 1, 2), 7);
            due("others", x.unitsOf(1, 1, 1), 0);
            due("fund 3", x.unitsOf(3, 0, 0), NO);
            due("fund -1", x.unitsOf(-1, 0, 0), NO);
            due("house 2", x.unitsOf(0, 2, 0), NO);
            due("class 3", x.unitsOf(0, 0, 3), NO);
        });
        test("43 fund", () -> {
            ClearingWaves x = classes();
            fraction("no units", x.fund(0, 0), x.fund(0, 1), 0, 1);
            x.units(0, 0, 1, 3);
            fraction("3 halves", x.fund(0, 0), x.fund(0, 1), 3, 2);
            x.units(0, 1, 0, 1);
            fraction("and a whole one", x.fund(0, 0), x.fund(0, 1), 5, 2);
            x.units(0, 0, 2, 1000000000000L);
            fraction("and many of nothing", x.fund(0, 0), x.fund(0, 1), 5, 2);
            due("fund 3", x.fund(3, 0), NO);
            due("fund -1", x.fund(-1, 0), NO);
            due("which", x.fund(0, 2), NO);
            ClearingWaves y = beyond();
            due("beyond", y.fund(0, 0), NO);
            due("beyond", y.fund(0, 1), NO);
            ClearingWaves z = heavy();
            z.units(0, 0, 0, 1);
            fraction("one", z.fund(0, 0), z.fund(0, 1), z.part(0, 0, 0), z.part(0, 0, 1));
            z.units(0, 0, 1, 1000000000000L);
            due("u c first, and c is 0", z.part(0, 1, 0), 0);
            fraction("nothing is added", z.fund(0, 0), z.fund(0, 1), z.part(0, 0, 0), z.part(0, 0, 1));
        });
        test("44 told", () -> {
            ClearingWaves x = classes();
            due("no units", x.told(1), -3);
            x.units(1, 0, 2, 5);
            due("worth nothing", x.told(1), 1);
            due("fund 3", x.told(3), -1);
            due("fund -1", x.told(-1), -1);
            ClearingWaves y = beyond();
            due("beyond", y.told(0), -6);
            y.units(0, 1, 0, 0);
            y.units(0, 2, 0, 0);
            due("one of them is not", y.told(0), 1);
        });
        test("45 best", () -> {
            ClearingWaves x = classes();
            due("none", x.best(), -5);
            x.units(2, 0, 2, 1);
            due("worth nothing, but units", x.best(), 2);
            x.units(1, 0, 1, 3);
            due("3 halves", x.best(), 1);
            x.units(2, 1, 0, 2);
            due("2", x.best(), 2);
            x.units(0, 0, 0, 2);
            due("of several the least", x.best(), 0);
            ClearingWaves y = beyond();
            y.units(2, 0, 0, 1);
            due("beyond is left out", y.best(), 2);
            // 3 by 7, 2 by 5, 5 by 12: each of their whole parts is 0, the next 2.
            ClearingWaves z = of(4, 10, 10, "a=3;b=2;c=5;a>d=7;b>d=5;c>d=12");
            z.units(0, 0, 0, 1);
            z.units(1, 1, 0, 1);
            z.units(2, 2, 0, 1);
            due("3 by 7", z.best(), 0);
            z.units(0, 0, 0, 0);
            due("5 by 12", z.best(), 2);
            z.units(2, 2, 0, 0);
            z.units(2, 1, 0, 1);
            due("2 by 5 each", z.best(), 1);
        });
        test("46 spell", () -> {
            ClearingWaves x = new ClearingWaves();
            due("nobody", x.spell(), 0);
            x = falling();
            due("two", x.spell(), 9);
            same("falling", page(x), "a1:2 b2:3");
            x = fractions();
            due("fractions", x.spell(), 18);
            same("fractions", page(x), "a1:100/51 b1:70/51");
        });
        test("46 spell, by waves", () -> {
            ClearingWaves x = of(4, 10, 10, "d>c=9;c>a=9;b>a=5;b=2");
            due("bytes", x.spell(), 14);
            same("great numbers", heavyText(), "a1:4664865389742/192804927467 b1:3188250254250/192804927467"
                + " c2:6536462068800/192804927467 d2:4247428431096/192804927467 e3:7391659064157/192804927467");
            same("by waves, then numbers", page(x), "b1:2 d1:0 c2:0");
            x.houses(2);
            due("the latest stays", x.count(6), 14);
            due("empty then", x.spell(), 0);
            due("empty then", x.count(6), 0);
        });
        test("47 paper", () -> {
            ClearingWaves x = falling();
            due("nothing", x.paper(0), -1);
            x.spell();
            due("first", x.paper(0), 'a');
            due("blank", x.paper(4), ' ');
            due("last", x.paper(8), '3');
            due("behind", x.paper(9), -1);
            due("below", x.paper(-1), -1);
            due("far", x.paper(MAX), -1);
            x.cash(0, 200);
            due("stays", x.paper(8), '3');
        });
        test("48 count", PromiseTest::counts);
    }

    // Five that fail by one another, with great numbers.
    private static ClearingWaves heavy() {
        ClearingWaves x = of(5, 9, 9, "a=1;b=2;c=3;d=4;e=5;a>b=20;a>c=19;a>d=18;a>e=17;b>a=20;b>c=17;b>d=13;c>a=20");
        readText(x, "c>e=19;c>d=11;d>e=20;d>a=3;e>c=20;e>b=7");
        for (int from = 0; from < 5; from++) {
            for (int to = 0; to < 5; to++) {
                x.owe(from, to, 1, 20);
            }
        }
        return x;
    }

    // Two parts with the same great number below: units times it and times it again.
    private static ClearingWaves beyond() {
        ClearingWaves x = of(4, 10, 7, "a=1;a>b=19;a>d=1;b>a=17;b>c=2;c>a=13;c>b=3;a>>d=20;b>>d=20;c>>d=20");
        for (int house = 0; house < 3; house++) {
            x.units(0, house, 0, 1000000000000L - house);
        }
        return x;
    }

    private static String heavyText() {
        ClearingWaves x = heavy();
        x.spell();
        return page(x);
    }

    private static void counts() {
        ClearingWaves x = of(3, 4, 6, "a=5;b=200;a>b=1;a>c=2;a>>b=20;c>>>a=9");
        x.feed('a');
        x.spell();
        long[] first = {3, 4, 6, 205, 32, 1, 0, 4};
        x.cash(1, 200);
        for (int k = 0; k < first.length; k++) {
            if (k != 6) {
                due("count " + k, x.count(k), first[k]);
            }
        }
        due("count 6", x.count(6), x.spell());
        due("8", x.count(8), -1);
        due("9", x.count(9), -1);
        due("10", x.count(10), 5);
        due("11", x.count(11), 200);
        due("12", x.count(12), 0);
        for (int k = 13; k < 20; k++) {
            due("count " + k, x.count(k), -1);
        }
        long[] dues = {3, 20, 0, 0, 0, 0, 0, 0, 9};
        for (int k = 0; k < dues.length; k++) {
            due("count " + (20 + k), x.count(20 + k), dues[k]);
        }
        for (int k = 29; k < 40; k++) {
            due("count " + k, x.count(k), -1);
        }
        due("-1", x.count(-1), -1);
        due("far", x.count(MAX), -1);
        due("far", x.count(MIN), -1);
        x.houses(5);
        x.cash(4, 8);
        x.owe(4, 0, 2, 7);
        due("14", x.count(14), 8);
        due("34", x.count(34), 7);
        due("35", x.count(35), -1);
        due("15", x.count(15), -1);
    }

    private static void rows() {
        test("49 row", () -> {
            ClearingWaves x = new ClearingWaves();
            due("20", x.row(0, 20), 1);
            due("last", x.get(0, 19), 0);
            due("0", x.row(3, 0), 1);
            due("no place", x.get(3, 0), NO);
            due("21", x.row(0, 21), -2);
            due("-1", x.row(0, -1), -14);
            due("far", x.row(0, MIN), -14);
            due("row 4", x.row(4, -1), -1);
            due("row -1", x.row(-1, 21), -1);
            x.set(0, 3, 9);
            due("still there", x.get(0, 3), 9);
            due("anew", x.row(0, 5), 1);
            due("all 0", x.get(0, 3), 0);
            due("shorter", x.get(0, 5), NO);
        });
        test("50 set", () -> {
            ClearingWaves x = new ClearingWaves();
            due("nothing", x.set(0, 0, 1), -11);
            x.row(0, 3);
            due("first", x.set(0, 0, NO), 1);
            due("last", x.set(0, 2, Long.MAX_VALUE), 1);
            due("first", x.get(0, 0), NO);
            due("last", x.get(0, 2), Long.MAX_VALUE);
            due("behind", x.set(0, 3, 1), -13);
            due("below", x.set(0, -1, 1), -13);
            due("far", x.set(0, MAX, 1), -13);
            due("row 4", x.set(4, 0, 1), -1);
            due("row -1", x.set(-1, 0, 1), -1);
            x.row(1, 0);
            due("an empty row", x.set(1, 0, 1), -13);
        });
        test("51 get", () -> {
            ClearingWaves x = new ClearingWaves();
            due("nothing", x.get(0, 0), NO);
            x.row(0, 2);
            x.row(1, 2);
            x.set(0, 1, 5);
            due("there", x.get(0, 1), 5);
            due("another row", x.get(1, 1), 0);
            due("behind", x.get(0, 2), NO);
            due("below", x.get(0, -1), NO);
            due("far", x.get(0, MIN), NO);
            due("row 4", x.get(4, 0), NO);
            due("row -1", x.get(-1, 0), NO);
        });
        test("52 lay", () -> {
            ClearingWaves x = falling();
            due("nothing", x.lay(0, 0), -11);
            x.row(0, 12);
            due("ten", x.lay(0, 1), 10);
            long[] parts = {0, 8, 40, 40, 15, 40, 40, 40, 40, 40, 40, 0};
            for (int k = 0; k < parts.length; k++) {
                due("place " + k, x.get(0, k), parts[k]);
            }
            due("just to the end", x.lay(0, 2), 10);
            due("not all", x.lay(0, 3), -13);
            due("those that have a place", x.get(0, 3), 8);
            due("the last", x.get(0, 11), 40);
            x.set(0, 11, 7);
            due("one at the end", x.lay(0, 11), -13);
            due("is laid", x.get(0, 11), 8);
            x.set(0, 0, 99);
            due("below 0", x.lay(0, -1), -13);
            due("none is laid", x.get(0, 0), 99);
            due("behind", x.lay(0, 12), -13);
            due("far", x.lay(0, MAX), -13);
            due("row 4", x.lay(4, 0), -1);
            due("row -1", x.lay(-1, 0), -1);
            ClearingWaves y = new ClearingWaves();
            y.row(2, 7);
            due("at first", y.lay(2, 0), 7);
            due("over 1", y.get(2, 6), 1);
        });
        test("53 judge", PromiseTest::judges);
        test("54 image", () -> {
            ClearingWaves x = falling();
            due("taken", x.image(), 3);
            x.houses(5);
            due("stays", x.undo(), 3);
            x.houses(5);
            due("taken anew", x.image(), 5);
            x.houses(2);
            due("the latter", x.undo(), 5);
            due("as it was", x.fails(), 0);
        });
        test("55 undo", () -> {
            ClearingWaves x = falling();
            due("none", x.undo(), -3);
            x.units(1, 1, 1, 6);
            x.image();
            x.row(0, 2);
            x.set(0, 0, 3);
            x.spell();
            x.feed('a');
            x.houses(2);
            x.cash(0, 1);
            x.owe(0, 1, 0, 20);
            x.costs(1, 1);
            x.units(1, 1, 1, 2);
            for (int time = 0; time < 2; time++) {
                due("back", x.undo(), 3);
                due("n", x.count(0), 3);
                due("a", x.count(1), 5);
                due("b", x.count(2), 10);
                due("cash", x.count(10), 4);
                due("owed", x.owed(0, 1, 0), 10);
                due("units", x.unitsOf(1, 1, 1), 6);
                due("fails", x.fails(), 3);
                due("coins", x.coin(1, 2, 0), 3);
                due("rounds", x.waves(), 2);
                due("row", x.get(0, 0), 3);
                due("tape", x.count(5), 1);
                due("paper", x.count(6), 9);
                x.cash(0, 50);
                x.owe(1, 0, 2, 3);
                due("in between", x.fails() + x.coinFails(), 0);
            }
        });
    }

    private static void put(ClearingWaves x, long... values) {
        for (int k = 0; k < values.length; k++) {
            x.set(0, k, values[k]);
        }
    }

    private static void judges() {
        ClearingWaves x = ringOfTwo(10);
        due("nothing", x.judge(0, 0), -3);
        x.row(0, 10);
        due("0 below", x.judge(0, 0), -2);
        due("too short", x.judge(0, 1), -3);
        due("below 0", x.judge(0, -1), -3);
        due("far", x.judge(0, MAX), -3);
        due("far", x.judge(0, MIN), -3);
        due("row 4", x.judge(4, 0), -1);
        due("row -1", x.judge(-1, 0), -1);
        x.lay(0, 0);
        due("the clearing", x.judge(0, 0), 2);
        put(x, 7, 0, 7, 7, 0, 7, 7, 7, 7, 7);
        due("over seven", x.judge(0, 0), 2);
        put(x, 1, 0, 2, 1, 0, 2, 2, 2, 2, 2);
        due("half the ring agrees", x.judge(0, 0), 1);
        put(x, 0, 0, 2, 0, 0, 2, 2, 2, 2, 2);
        due("nothing agrees", x.judge(0, 0), 1);
        put(x, 1, 0, 2, 2, 0, 2, 2, 2, 2, 2);
        due("unlike ones don't", x.judge(0, 0), 0);
        put(x, 2, 0, 2, 2, 0, 2, 2, 2, 1, 2);
        due("nothing due is a part of 1", x.judge(0, 0), 0);
        put(x, 2, 0, 1, 2, 0, 2, 2, 2, 2, 2);
        due("of one that fails, too", x.judge(0, 0), 0);
        put(x, 2, 1, 2, 2, 0, 2, 2, 2, 2, 2);
        due("the class behind", x.judge(0, 0), 0);
        put(x, 2, 2, 2, 2, 2, 2, 2, 2, 2, 2);
        due("all is too much", x.judge(0, 0), 0);
        put(x, 3, 0, 2, 2, 0, 2, 2, 2, 2, 2);
        due("above below", x.judge(0, 0), -2);
        put(x, -1, 0, 2, 2, 0, 2, 2, 2, 2, 2);
        due("less than 0", x.judge(0, 0), -2);
        put(x, 2, 0, 2, 2, 0, 2, 2, 2, 2, -2);
        due("below less than 0", x.judge(0, 0), -2);
        long most = 1000000000000000L;
        put(x, most, 0, most, most, 0, most, most, most, most, most);
        due("over the greatest", x.judge(0, 0), 2);
        put(x, most / 8, 0, most, most / 8, 0, most, most, most, most, most);
        due("an eighth over the greatest", x.judge(0, 0), 1);
        put(x, most / 8, 0, most, most / 8 + 1, 0, most, most, most, most, most);
        due("a little more", x.judge(0, 0), 0);
        put(x, 1, 0, 1, 1, 0, 1, 1, 1, 1, most + 1);
        due("beyond the greatest", x.judge(0, 0), -2);
        ClearingWaves y = falling();
        y.row(0, 11);
        y.lay(0, 1);
        due("from place 1", y.judge(0, 1), 2);
        y.set(0, 1, 7);
        due("a little less", y.judge(0, 1), 0);
        // House 2 has by told parts just what it owes: it doesn't fail, and nothing is cut of it.
        ClearingWaves w = of(4, 0, 10, "a>b=10;b>a=10;a>>c=5;b>>c=5;c=10;c>d=10");
        w.row(0, 13);
        put(w, 1, 0, 2, 1, 0, 2, 2, 2, 2, 2, 2, 2, 2);
        due("just enough", w.judge(0, 0), 1);
        // Each pays 2, of 10 and of 8, and there is no part of 1 that would tell 21 from 20 below.
        ClearingWaves v = of(2, 10, 5, "a=1;b=1;a>b=10;b>a=8;a>>b=5;b>>a=1;a>>>b=5;b>>>a=1");
        v.row(0, 7);
        put(v, 4, 0, 0, 5, 0, 0, 20);
        due("1 by 5 and 1 by 4", v.judge(0, 0), 2);
        put(v, 4, 0, 0, 5, 0, 0, 21);
        due("a little less", v.judge(0, 0), 0);
        // By told parts of 1 house 1 has enough, so that one it holds by them pays all.
        ClearingWaves z = of(2, 0, 10, "a=5;b=5;a>b=10;b>a=10");
        z.row(0, 7);
        put(z, 1, 1, 1, 1, 1, 1, 1);
        due("none fails", z.judge(0, 0), 2);
        put(z, 0, 1, 1, 0, 1, 1, 1);
        due("both fail, and agree", z.judge(0, 0), 1);
    }

    private static void constants() {
        test("constants", () -> {
            due("NONE", ClearingWaves.NONE, -1);
            due("BAD", ClearingWaves.BAD, -2);
            due("STATE", ClearingWaves.STATE, -3);
            due("FULL", ClearingWaves.FULL, -4);
            due("OVER", ClearingWaves.OVER, -6);
            due("NO", ClearingWaves.NO, NO);
        });
    }

    public static void main(String[] args) {
        constants();
        told();
        clearing();
        causes();
        coins();
        comeAndGo();
        rings();
        funds();
        rows();
        System.out.println(passed + " passed, " + failed + " failed");
        System.exit(failed == 0 ? 0 : 1);
    }
}
