import java.math.BigInteger;
import java.util.Random;

/** Runs of drawn calls on the program and on the oracle; the same seeds draw the same calls. */
public final class CompareTest {
    /** An object is used for 512 calls; what later ones answer is free. */
    private static final int MOST_CALLS = 512;
    private static long calls;
    private static final StringBuilder trace = new StringBuilder();

    private final Random random;
    private final ClearingWaves x = new ClearingWaves();
    private final Oracle o = new Oracle();
    private int mine;

    private CompareTest(long seed) {
        random = new Random(seed);
    }

    private static final class Differs extends RuntimeException {
        private static final long serialVersionUID = 1;

        Differs(String what) {
            super(what);
        }
    }

    private static final class UsedUp extends RuntimeException {
        private static final long serialVersionUID = 1;
    }

    private void same(String call, long got, long want) {
        calls++;
        mine++;
        trace.append("      x.").append(call).append("; // ").append(want).append('\n');
        if (got != want) {
            throw new Differs(call + " answered " + got + ", due is " + want);
        }
        if (mine == MOST_CALLS) {
            throw new UsedUp();
        }
    }

    private int upTo(int n) {
        return random.nextInt(n + 1);
    }

    // Mostly a number that is there; now and then one at the edge, or far off.
    private int number(int n) {
        int draw = random.nextInt(40);
        if (draw == 0) {
            return -1;
        }
        if (draw == 1) {
            return n;
        }
        if (draw == 2) {
            return random.nextBoolean() ? Integer.MAX_VALUE : Integer.MIN_VALUE;
        }
        return random.nextInt(n);
    }

    private int house() {
        return number(o.n);
    }

    private int which() {
        return random.nextInt(30) == 0 ? number(2) : random.nextInt(2);
    }

    private int amount(int most) {
        int draw = random.nextInt(30);
        if (draw == 0) {
            return most + 1;
        }
        if (draw == 1) {
            return -1;
        }
        if (draw == 2) {
            return most;
        }
        return random.nextInt(5) == 0 ? upTo(most) : upTo(Math.min(most, 12));
    }

    private void tellAll(int cashMost, int owedMost, int chance) {
        int n = 2 + upTo(3);
        same("houses(" + n + ")", x.houses(n), o.houses(n));
        if (random.nextInt(3) > 0) {
            int a = random.nextInt(3) == 0 ? 10 : upTo(10);
            int b = random.nextInt(3) > 0 ? 10 - upTo(2) : upTo(10);
            same("costs(" + a + ", " + b + ")", x.costs(a, b), o.costs(a, b));
        }
        for (int h = 0; h < n; h++) {
            int v = random.nextInt(3) == 0 ? 0 : upTo(cashMost);
            same("cash(" + h + ", " + v + ")", x.cash(h, v), o.cash(h, v));
            for (int to = 0; to < n; to++) {
                for (int cls = 0; cls < 3; cls++) {
                    if (h != to && random.nextInt(100) < chance) {
                        int w = upTo(owedMost);
                        same("owe(" + h + ", " + to + ", " + cls + ", " + w + ")",
                            x.owe(h, to, cls, w), o.owe(h, to, cls, w));
                    }
                }
            }
        }
    }

    // Great debts in few classes: numbers below the line grow up to 10^14.
    private void tellHeavy() {
        same("houses(5)", x.houses(5), o.houses(5));
        int a = upTo(10);
        int b = 10 - upTo(3);
        same("costs(" + a + ", " + b + ")", x.costs(a, b), o.costs(a, b));
        for (int h = 0; h < 5; h++) {
            int v = upTo(9);
            same("cash(" + h + ", " + v + ")", x.cash(h, v), o.cash(h, v));
            int heavy = random.nextInt(4) == 0 ? upTo(2) : 0;
            for (int to = 0; to < 5; to++) {
                for (int cls = 0; cls < 3 && h != to; cls++) {
                    int w = cls == heavy ? 20 - upTo(5) : upTo(random.nextInt(3) == 0 ? 6 : 0);
                    same("owe(" + h + ", " + to + ", " + cls + ", " + w + ")", x.owe(h, to, cls, w), o.owe(h, to, cls, w));
                }
            }
        }
        int last = upTo(2);
        same("owe(" + 0 + ", 1, " + last + ", 20)", x.owe(0, 1, last, 20), o.owe(0, 1, last, 20));
    }

    // Round numbers without costs: rings that lose nothing, rests that end where a class ends.
    private void tellTight() {
        int n = 3 + upTo(2);
        int unit = 1 + upTo(4);
        same("houses(" + n + ")", x.houses(n), o.houses(n));
        int a = random.nextInt(3) == 0 ? upTo(10) : 10;
        same("costs(" + a + ", 10)", x.costs(a, 10), o.costs(a, 10));
        for (int h = 0; h < n; h++) {
            int v = random.nextInt(3) == 0 ? unit * upTo(2) : 0;
            same("cash(" + h + ", " + v + ")", x.cash(h, v), o.cash(h, v));
            for (int cls = 0; cls < 3; cls++) {
                for (int time = 0; time <= upTo(cls == 0 ? 1 : 2); time++) {
                    int to = (h + 1 + upTo(n - 2)) % n;
                    int w = unit * upTo(3);
                    same("owe(" + h + ", " + to + ", " + cls + ", " + w + ")", x.owe(h, to, cls, w), o.owe(h, to, cls, w));
                }
            }
        }
    }

    // Rings of equal debts that feed nobody else in their class, and debts behind them that fail
    // their houses: rings that hold whole, wave by wave, while others fall.
    private void tellRings() {
        int n = 4 + upTo(1);
        same("houses(" + n + ")", x.houses(n), o.houses(n));
        int a = random.nextBoolean() ? 10 : upTo(10);
        int b = random.nextInt(4) == 0 ? 9 : 10;
        same("costs(" + a + ", " + b + ")", x.costs(a, b), o.costs(a, b));
        for (int cls = 0; cls < 3; cls++) {
            int first = upTo(n - 1);
            int many = random.nextInt(3) == 0 ? 0 : 2 + upTo(n - 2);
            int w = 1 + upTo(9);
            for (int k = 0; k < many; k++) {
                int from = (first + k) % n;
                int to = (first + (k + 1) % many) % n;
                int v = random.nextInt(12) == 0 ? w + 1 : w;
                same("owe(" + from + ", " + to + ", " + cls + ", " + v + ")", x.owe(from, to, cls, v), o.owe(from, to, cls, v));
            }
        }
        for (int h = 0; h < n; h++) {
            int v = random.nextInt(4) == 0 ? upTo(12) : 0;
            same("cash(" + h + ", " + v + ")", x.cash(h, v), o.cash(h, v));
            if (random.nextBoolean()) {
                int to = (h + 1 + upTo(n - 2)) % n;
                int cls = upTo(2);
                int w = 1 + upTo(9);
                same("owe(" + h + ", " + to + ", " + cls + ", " + w + ")", x.owe(h, to, cls, w), o.owe(h, to, cls, w));
            }
        }
    }

    // Units by which a product or a sum comes just to the end of a long, or one beyond it.
    private void fundEdge() {
        int fund = upTo(2);
        for (int k = 0; k < 3 * o.n; k++) {
            int h = k / 3;
            int c = k % 3;
            same("units(" + fund + ", " + h + ", " + c + ", 0L)", x.units(fund, h, c, 0), o.units(fund, h, c, 0));
        }
        int first = upTo(3 * o.n - 2);
        int second = first + 1 + upTo(3 * o.n - 2 - first);
        long few = random.nextInt(3) == 0 ? 0 : 1 + upTo(1000);
        setUnits(fund, first, few);
        Oracle.Frac worth = o.worth(fund);
        Oracle.Frac part = o.now().last()[second / 3][second % 3];
        if (worth == null || part.isZero()) {
            return;
        }
        BigInteger end = BigInteger.valueOf(Long.MAX_VALUE);
        if (random.nextBoolean()) {
            end = end.subtract(worth.p.multiply(part.q));
        }
        BigInteger u = end.divide(part.p).divide(worth.q).add(BigInteger.valueOf(upTo(2) - 1));
        if (u.signum() > 0 && u.bitLength() < 63) {
            setUnits(fund, second, u.longValue());
            same("told(" + fund + ")", x.told(fund), o.told(fund));
            same("fund(" + fund + ", 0)", x.fund(fund, 0), o.fund(fund, 0));
            same("fund(" + fund + ", 1)", x.fund(fund, 1), o.fund(fund, 1));
            same("best()", x.best(), o.best());
        }
    }

    private void setUnits(int fund, int k, long u) {
        same("units(" + fund + ", " + k / 3 + ", " + k % 3 + ", " + u + "L)",
            x.units(fund, k / 3, k % 3, u), o.units(fund, k / 3, k % 3, u));
    }

    private void askAll() {
        same("waves()", x.waves(), o.waves());
        same("fails()", x.fails(), o.fails());
        same("steps()", x.steps(), o.steps());
        same("coinFails()", x.coinFails(), o.coinFails());
        same("gone()", x.gone(), o.gone());
        for (int h = 0; h < o.n; h++) {
            same("wave(" + h + ")", x.wave(h), o.wave(h));
            same("cause(" + h + ")", x.cause(h), o.cause(h));
            same("root(" + h + ")", x.root(h), o.root(h));
            same("pulls(" + h + ")", x.pulls(h), o.pulls(h));
            for (int k = 0; k < 5; k++) {
                same("chain(" + h + ", " + k + ")", x.chain(h, k), o.chain(h, k));
            }
            for (int w = 0; w < 2; w++) {
                same("gets(" + h + ", " + w + ")", x.gets(h, w), o.gets(h, w));
                same("left(" + h + ", " + w + ")", x.left(h, w), o.left(h, w));
                same("lost(" + h + ", " + w + ")", x.lost(h, w), o.lost(h, w));
                for (int round = 0; round <= o.waves(); round++) {
                    same("worthIn(" + round + ", " + h + ", " + w + ")",
                        x.worthIn(round, h, w), o.worthIn(round, h, w));
                    for (int cls = 0; cls < 3; cls++) {
                        same("partIn(" + round + ", " + h + ", " + cls + ", " + w + ")",
                            x.partIn(round, h, cls, w), o.partIn(round, h, cls, w));
                    }
                }
                for (int from = 0; from < o.n; from++) {
                    same("lacks(" + h + ", " + from + ", " + w + ")", x.lacks(h, from, w), o.lacks(h, from, w));
                }
            }
            for (int to = 0; to < o.n; to++) {
                int cls = upTo(2);
                int w = upTo(1);
                same("coin(" + h + ", " + to + ", " + cls + ")", x.coin(h, to, cls), o.coin(h, to, cls));
                same("paid(" + h + ", " + to + ", " + cls + ", " + w + ")",
                    x.paid(h, to, cls, w), o.paid(h, to, cls, w));
            }
        }
        for (int what = -1; what < 4; what++) {
            same("all(" + what + ", 0)", x.all(what, 0), o.all(what, 0));
            same("all(" + what + ", 1)", x.all(what, 1), o.all(what, 1));
        }
        askText();
        same("row(0, 20)", x.row(0, 20), o.row(0, 20));
        same("lay(0, 2)", x.lay(0, 2), o.lay(0, 2));
        for (int i = 0; i < 20; i++) {
            same("get(0, " + i + ")", x.get(0, i), o.get(0, i));
        }
        same("judge(0, 2)", x.judge(0, 2), o.judge(0, 2));
    }

    private void askText() {
        int length = o.spell();
        same("spell()", x.spell(), length);
        for (int i = 0; i <= length; i++) {
            same("paper(" + i + ")", x.paper(i), o.paper(i));
        }
    }

    private void tellOne() {
        switch (random.nextInt(11)) {
            case 0: {
                int h = house();
                int v = amount(200);
                same("cash(" + h + ", " + v + ")", x.cash(h, v), o.cash(h, v));
                break;
            }
            case 1:
            case 2:
            case 3: {
                int f = house();
                int t = house();
                int c = number(3);
                int v = amount(20);
                same("owe(" + f + ", " + t + ", " + c + ", " + v + ")", x.owe(f, t, c, v), o.owe(f, t, c, v));
                break;
            }
            case 4: {
                int a = random.nextBoolean() ? 10 : amount(10);
                int b = random.nextBoolean() ? 10 : amount(10);
                same("costs(" + a + ", " + b + ")", x.costs(a, b), o.costs(a, b));
                break;
            }
            case 5: {
                int f = house();
                int t = house();
                int h = house();
                int c = number(3);
                int v = random.nextInt(20) == 0 ? number(30) : 1 + upTo(8);
                same("cede(" + f + ", " + t + ", " + h + ", " + c + ", " + v + ")",
                    x.cede(f, t, h, c, v), o.cede(f, t, h, c, v));
                break;
            }
            case 6: {
                int f = house();
                int t = house();
                int c = number(3);
                int v = random.nextInt(20) == 0 ? number(30) : 1 + upTo(5);
                same("settle(" + f + ", " + t + ", " + c + ", " + v + ")",
                    x.settle(f, t, c, v), o.settle(f, t, c, v));
                break;
            }
            case 7: {
                if (random.nextInt(4) == 0) {
                    int c = number(3);
                    same("net(" + c + ")", x.net(c), o.net(c));
                }
                break;
            }
            case 8: {
                int u = number(3);
                int h = house();
                int c = number(3);
                long v = random.nextInt(3) == 0 ? 1000000000000L - upTo(3) + 1
                    : random.nextInt(3) == 0 ? Math.floorMod(random.nextLong(), 1000000000000L)
                    : random.nextInt(30) - 3;
                same("units(" + u + ", " + h + ", " + c + ", " + v + "L)", x.units(u, h, c, v), o.units(u, h, c, v));
                break;
            }
            case 9: {
                if (random.nextInt(6) == 0) {
                    same("image()", x.image(), o.image());
                }
                break;
            }
            default: {
                if (random.nextInt(8) == 0) {
                    same("undo()", x.undo(), o.undo());
                } else if (random.nextInt(12) == 0) {
                    int n = number(7);
                    same("houses(" + n + ")", x.houses(n), o.houses(n));
                }
                break;
            }
        }
    }

    private void feedText() {
        StringBuilder text = new StringBuilder();
        int parts = 1 + upTo(6);
        for (int k = 0; k < parts; k++) {
            if (k > 0) {
                text.append(';');
            }
            char from = (char) ('a' + upTo(o.n - 1));
            text.append(from);
            if (random.nextInt(3) == 0) {
                text.append('=').append(random.nextInt(20) == 0 ? upTo(250) : upTo(60));
            } else {
                text.append(">>>", 0, 1 + upTo(2));
                char to = (char) ('a' + upTo(o.n - 1));
                text.append(to == from ? (char) ('a' + (to - 'a' + 1) % o.n) : to);
                text.append('=').append(random.nextInt(20) == 0 ? upTo(30) : upTo(20));
            }
        }
        if (random.nextInt(3) == 0) {
            String signs = "abcdef=>;0123456789 A";
            int at = upTo(text.length());
            char sign = signs.charAt(upTo(signs.length() - 1));
            switch (random.nextInt(3)) {
                case 0:
                    text.insert(at, sign);
                    break;
                case 1:
                    text.setLength(at);
                    break;
                default:
                    if (at < text.length()) {
                        text.setCharAt(at, sign);
                    }
                    break;
            }
        }
        for (int i = 0; i < text.length(); i++) {
            int letter = text.charAt(i);
            same("feed(" + letter + ")", x.feed(letter), o.feed(letter));
        }
        same("read()", x.read(), o.read());
    }

    private void askOne() {
        int h = house();
        int g = house();
        int c = number(3);
        int w = which();
        switch (random.nextInt(34)) {
            case 0: same("waves()", x.waves(), o.waves()); break;
            case 1: same("wave(" + h + ")", x.wave(h), o.wave(h)); break;
            case 2: same("fails()", x.fails(), o.fails()); break;
            case 3: same("part(" + h + ", " + c + ", " + w + ")", x.part(h, c, w), o.part(h, c, w)); break;
            case 4: {
                int r = number(4);
                same("partIn(" + r + ", " + h + ", " + c + ", " + w + ")", x.partIn(r, h, c, w), o.partIn(r, h, c, w));
                break;
            }
            case 5: same("paid(" + h + ", " + g + ", " + c + ", " + w + ")", x.paid(h, g, c, w), o.paid(h, g, c, w)); break;
            case 6: same("gets(" + h + ", " + w + ")", x.gets(h, w), o.gets(h, w)); break;
            case 7: {
                int r = number(4);
                same("worthIn(" + r + ", " + h + ", " + w + ")", x.worthIn(r, h, w), o.worthIn(r, h, w));
                break;
            }
            case 8: same("left(" + h + ", " + w + ")", x.left(h, w), o.left(h, w)); break;
            case 9: same("lost(" + h + ", " + w + ")", x.lost(h, w), o.lost(h, w)); break;
            case 10: same("lacks(" + h + ", " + g + ", " + w + ")", x.lacks(h, g, w), o.lacks(h, g, w)); break;
            case 11: same("all(" + c + ", " + w + ")", x.all(c, w), o.all(c, w)); break;
            case 12: same("cause(" + h + ")", x.cause(h), o.cause(h)); break;
            case 13: {
                int k = number(5);
                same("chain(" + h + ", " + k + ")", x.chain(h, k), o.chain(h, k));
                break;
            }
            case 14: same("root(" + h + ")", x.root(h), o.root(h)); break;
            case 15: same("pulls(" + h + ")", x.pulls(h), o.pulls(h)); break;
            case 16: same("coin(" + h + ", " + g + ", " + c + ")", x.coin(h, g, c), o.coin(h, g, c)); break;
            case 17: same("steps()", x.steps(), o.steps()); break;
            case 18: same("coinFails()", x.coinFails(), o.coinFails()); break;
            case 19: same("gone()", x.gone(), o.gone()); break;
            case 20: {
                int v = amount(200);
                same("saved(" + v + ", " + h + ")", x.saved(v, h), o.saved(v, h));
                break;
            }
            case 21: {
                int v = amount(200);
                same("struck(" + v + ", " + h + ")", x.struck(v, h), o.struck(v, h));
                break;
            }
            case 22: {
                int v = amount(200);
                same("saves(" + v + ", " + w + ")", x.saves(v, w), o.saves(v, w));
                break;
            }
            case 23: {
                if (random.nextInt(8) == 0) {
                    same("needs(" + h + ", " + g + ")", x.needs(h, g), o.needs(h, g));
                }
                break;
            }
            case 24: {
                if (random.nextInt(8) == 0) {
                    same("calms(" + h + ")", x.calms(h), o.calms(h));
                }
                break;
            }
            case 25: same("danger()", x.danger(), o.danger()); break;
            case 26: {
                int k = number(5);
                same("ring(" + c + ", " + k + ")", x.ring(c, k), o.ring(c, k));
                break;
            }
            case 27: same("unitsOf(" + c + ", " + h + ", " + w + ")", x.unitsOf(c, h, w), o.unitsOf(c, h, w)); break;
            case 28: same("fund(" + c + ", " + w + ")", x.fund(c, w), o.fund(c, w)); break;
            case 29: same("told(" + c + ")", x.told(c), o.told(c)); break;
            case 30: same("best()", x.best(), o.best()); break;
            case 31: askText(); break;
            case 32: {
                int what = number(40);
                same("count(" + what + ")", x.count(what), o.count(what));
                break;
            }
            default: same("owed(" + h + ", " + g + ", " + c + ")", x.owed(h, g, c), o.owed(h, g, c)); break;
        }
    }

    private void rowCall() {
        int r = number(4);
        int i = random.nextInt(4) == 0 ? number(21) : upTo(5);
        switch (random.nextInt(7)) {
            case 0: {
                int n = random.nextInt(6) == 0 ? number(21) : 10 + upTo(10);
                same("row(" + r + ", " + n + ")", x.row(r, n), o.row(r, n));
                break;
            }
            case 1: {
                long v = random.nextInt(5) == 0 ? random.nextLong() : upTo(6);
                same("set(" + r + ", " + i + ", " + v + "L)", x.set(r, i, v), o.set(r, i, v));
                break;
            }
            case 2: same("get(" + r + ", " + i + ")", x.get(r, i), o.get(r, i)); break;
            case 3: same("lay(" + r + ", " + i + ")", x.lay(r, i), o.lay(r, i)); break;
            case 4: same("judge(" + r + ", " + i + ")", x.judge(r, i), o.judge(r, i)); break;
            case 5: {
                int v = random.nextInt(5) == 0 ? number(32) : 1 + upTo(9);
                int m = random.nextInt(5) == 0 ? number(8) : 1 + upTo(3);
                int w = which();
                same("rescue(" + r + ", " + i + ", " + v + ", " + m + ", " + w + ")",
                    x.rescue(r, i, v, m, w), o.rescue(r, i, v, m, w));
                break;
            }
            default: {
                // A row that is laid, then all over a multiple of what is below: it is judged alike.
                same("lay(" + r + ", " + i + ")", x.lay(r, i), o.lay(r, i));
                int many = 1 + upTo(3);
                for (int k = 0; k <= 3 * o.n; k++) {
                    long v = o.get(r, i + k);
                    if (v > 0 && v < 1000000000000000L) {
                        long w = v * many - (random.nextInt(60) == 0 ? 1 : 0);
                        same("set(" + r + ", " + (i + k) + ", " + w + "L)", x.set(r, i + k, w), o.set(r, i + k, w));
                    }
                }
                same("judge(" + r + ", " + i + ")", x.judge(r, i), o.judge(r, i));
                break;
            }
        }
    }

    private void run(int kind) {
        switch (kind) {
            case 0:
                tellAll(30, 20, 40);
                break;
            case 1:
                tellAll(4, 10, 25);
                break;
            case 2:
                tellAll(3, 3, 60);
                break;
            case 3:
                tellAll(200, 20, 100);
                break;
            case 4:
                tellAll(60, 20, 80);
                break;
            case 5:
                tellHeavy();
                break;
            case 6:
                tellTight();
                break;
            default:
                tellRings();
                break;
        }
        // Asking all of five houses takes most of the calls that an object has.
        if (random.nextBoolean()) {
            askAll();
        }
        fundEdge();
        for (int k = 0; k < 150; k++) {
            int draw = random.nextInt(20);
            if (draw < 6) {
                tellOne();
            } else if (draw < 16) {
                askOne();
            } else if (draw < 19) {
                rowCall();
            } else {
                feedText();
            }
        }
    }

    public static void main(String[] args) {
        int runs = args.length > 0 ? Integer.parseInt(args[0]) : 2400;
        long seed = args.length > 1 ? Long.parseLong(args[1]) : 1;
        int passed = 0;
        int failed = 0;
        for (int k = 0; k < runs; k++) {
            trace.setLength(0);
            try {
                new CompareTest(seed + k).run(k % 8);
                passed++;
            } catch (UsedUp e) {
                passed++;
            } catch (RuntimeException e) {
                failed++;
                System.out.println("seed " + (seed + k) + ", kind " + k % 8 + ": " + e);
                if (failed == 1) {
                    System.out.print(trace);
                }
            }
        }
        System.out.println("compared " + calls + " calls");
        System.out.println(passed + " passed, " + failed + " failed");
        System.exit(failed == 0 ? 0 : 1);
    }
}
