import java.math.BigInteger;
import java.util.ArrayList;
import java.util.Arrays;
import java.util.List;

/**
 * The document once more, in the slow and plain way, for comparing: fractions of BigIntegers, and
 * the greatest payments found by trying. Payments are lowered from above as doubles until they
 * rest; then every way to pay that lies there is solved exactly, and the one kept that pays by
 * what it gets. It agrees, so it isn't above the greatest; the doubles are never below that.
 */
final class Oracle {
    static final int NONE = -1, BAD = -2, STATE = -3, FULL = -4, OVER = -6;
    static final long NO = Long.MIN_VALUE;

    /** A fraction in lowest terms. */
    static final class Frac implements Comparable<Frac> {
        static final Frac ZERO = new Frac(BigInteger.ZERO, BigInteger.ONE);
        static final Frac ONE = new Frac(BigInteger.ONE, BigInteger.ONE);
        final BigInteger p;
        final BigInteger q;

        Frac(BigInteger p, BigInteger q) {
            BigInteger g = p.gcd(q);
            if (q.signum() < 0) {
                g = g.negate();
            }
            this.p = p.divide(g);
            this.q = q.divide(g);
        }

        static Frac of(long v) {
            return new Frac(BigInteger.valueOf(v), BigInteger.ONE);
        }

        static Frac of(long v, long w) {
            return new Frac(BigInteger.valueOf(v), BigInteger.valueOf(w));
        }

        Frac plus(Frac o) {
            return new Frac(p.multiply(o.q).add(o.p.multiply(q)), q.multiply(o.q));
        }

        Frac minus(Frac o) {
            return new Frac(p.multiply(o.q).subtract(o.p.multiply(q)), q.multiply(o.q));
        }

        Frac times(Frac o) {
            return new Frac(p.multiply(o.p), q.multiply(o.q));
        }

        Frac by(Frac o) {
            return new Frac(p.multiply(o.q), q.multiply(o.p));
        }

        Frac times(long v) {
            return times(of(v));
        }

        boolean isZero() {
            return p.signum() == 0;
        }

        @Override
        public int compareTo(Frac o) {
            return p.multiply(o.q).compareTo(o.p.multiply(q));
        }

        @Override
        public boolean equals(Object o) {
            return o instanceof Frac f && compareTo(f) == 0;
        }

        @Override
        public int hashCode() {
            return p.hashCode();
        }

        long tell(int which) {
            return which == 0 ? p.longValueExact() : which == 1 ? q.longValueExact() : NO;
        }

        @Override
        public String toString() {
            return p + "/" + q;
        }
    }

    /** One clearing: waves and the parts of each round. */
    static final class Result {
        int waves;
        int[] waveOf = new int[5];
        List<Frac[][]> rounds = new ArrayList<>();

        Frac[][] last() {
            return rounds.get(rounds.size() - 1);
        }

        int bits() {
            int bits = 0;
            for (int h = 0; h < 5; h++) {
                if (waveOf[h] > 0) {
                    bits |= 1 << h;
                }
            }
            return bits;
        }
    }

    int n = 2;
    int a = 10;
    int b = 10;
    int[] cash = new int[5];
    int[][][] owed = new int[5][5][3];
    long[][][] units = new long[3][5][3];
    Object[] image;
    List<Integer> tape = new ArrayList<>();
    String text = "";
    long[][] rows = new long[4][];

    // ---- what is told

    boolean h(int house) {
        return house >= 0 && house < n;
    }

    boolean c(int cls) {
        return cls >= 0 && cls < 3;
    }

    int houses(int m) {
        if (m < 2 || m > 5) {
            return BAD;
        }
        n = m;
        a = 10;
        b = 10;
        cash = new int[5];
        owed = new int[5][5][3];
        units = new long[3][5][3];
        return n;
    }

    int cash(int house, int v) {
        if (!h(house)) {
            return NONE;
        }
        if (v < 0 || v > 200) {
            return BAD;
        }
        int was = cash[house];
        cash[house] = v;
        return was;
    }

    int owe(int from, int to, int cls, int v) {
        if (!h(from) || !h(to) || from == to || !c(cls)) {
            return NONE;
        }
        if (v < 0 || v > 20) {
            return BAD;
        }
        int was = owed[from][to][cls];
        owed[from][to][cls] = v;
        return was;
    }

    int owed(int from, int to, int cls) {
        return !h(from) || !h(to) || from == to || !c(cls) ? NONE : owed[from][to][cls];
    }

    int costs(int x, int y) {
        if (x < 0 || x > 10 || y < 0 || y > 10) {
            return BAD;
        }
        a = x;
        b = y;
        return 1;
    }

    int cede(int from, int to, int third, int cls, int v) {
        if (!h(from) || !h(to) || !h(third) || from == to || from == third || to == third || !c(cls)) {
            return NONE;
        }
        if (v < 1) {
            return BAD;
        }
        if (owed[from][to][cls] < v) {
            return STATE;
        }
        if (owed[from][third][cls] + v > 20) {
            return FULL;
        }
        owed[from][to][cls] -= v;
        owed[from][third][cls] += v;
        return 1;
    }

    int settle(int from, int to, int cls, int v) {
        if (!h(from) || !h(to) || from == to || !c(cls)) {
            return NONE;
        }
        if (v < 1) {
            return BAD;
        }
        if (owed[from][to][cls] < v || cash[from] < v) {
            return STATE;
        }
        if (cash[to] + v > 200) {
            return FULL;
        }
        owed[from][to][cls] -= v;
        cash[from] -= v;
        cash[to] += v;
        return 1;
    }

    int feed(int letter) {
        if (letter < 1 || letter > 127) {
            return BAD;
        }
        if (tape.size() >= 120) {
            return FULL;
        }
        tape.add(letter);
        return tape.size();
    }

    int clear() {
        int was = tape.size();
        tape.clear();
        return was;
    }

    // Keeps every text that may still become debts: the place where none is left is the fault.
    int read() {
        StringBuilder s = new StringBuilder();
        for (int x : tape) {
            s.append((char) x);
        }
        tape.clear();
        String t = s.toString();
        String state = "start";
        int parts = 0;
        int from = 0;
        int to = 0;
        int marks = 0;
        int begin = 0;
        List<int[]> todo = new ArrayList<>();
        for (int i = 0; i <= t.length(); i++) {
            char x = i < t.length() ? t.charAt(i) : 0;
            boolean digit = x >= '0' && x <= '9';
            boolean house = x >= 'a' && x < 'a' + n;
            switch (state) {
                case "start":
                    if (!house) {
                        return -100 - i;
                    }
                    from = x - 'a';
                    marks = 0;
                    state = "house";
                    break;
                case "house":
                    if (x == '=' && marks == 0) {
                        state = "number";
                        begin = i + 1;
                    } else if (x == '>' && marks < 3) {
                        marks++;
                    } else if (house && marks > 0 && x - 'a' != from) {
                        to = x - 'a';
                        state = "equals";
                    } else {
                        return -100 - i;
                    }
                    break;
                case "equals":
                    if (x != '=') {
                        return -100 - i;
                    }
                    state = "number";
                    begin = i + 1;
                    break;
                default:
                    int figures = marks == 0 ? 3 : 2;
                    if (digit && i - begin < figures) {
                        int v = Integer.parseInt(t.substring(begin, i + 1));
                        if (v > (marks == 0 ? 200 : 20)) {
                            return -100 - begin;
                        }
                        break;
                    }
                    if (i == begin || x != ';' && i < t.length()) {
                        return -100 - i;
                    }
                    todo.add(new int[] {from, to, marks, Integer.parseInt(t.substring(begin, i))});
                    parts++;
                    state = "start";
                    break;
            }
        }
        for (int[] one : todo) {
            if (one[2] == 0) {
                cash[one[0]] = one[3];
            } else {
                owed[one[0]][one[1]][one[2] - 1] = one[3];
            }
        }
        return parts;
    }

    // ---- solving

    int due(int house, int cls) {
        return Arrays.stream(owed[house]).mapToInt(x -> x[cls]).sum();
    }

    int due(int house) {
        return due(house, 0) + due(house, 1) + due(house, 2);
    }

    // parts by what a house that fails pays in all
    double[] partsOf(int house, double pays) {
        double[] parts = new double[3];
        double rest = Math.max(0, pays);
        for (int k = 0; k < 3; k++) {
            int d = due(house, k);
            parts[k] = d == 0 ? 1 : Math.min(1, rest / d);
            rest = Math.max(0, rest - d);
        }
        return parts;
    }

    Frac[] partsOf(int house, Frac pays) {
        Frac[] parts = new Frac[3];
        Frac rest = pays.p.signum() < 0 ? Frac.ZERO : pays;
        for (int k = 0; k < 3; k++) {
            Frac d = Frac.of(due(house, k));
            if (d.isZero() || rest.compareTo(d) >= 0) {
                parts[k] = Frac.ONE;
                rest = rest.minus(d);
            } else {
                parts[k] = rest.by(d);
                rest = Frac.ZERO;
            }
        }
        return parts;
    }

    Frac gets(Frac[][] parts, int house) {
        Frac sum = Frac.ZERO;
        for (int from = 0; from < n; from++) {
            for (int k = 0; k < 3; k++) {
                sum = sum.plus(parts[from][k].times(owed[from][house][k]));
            }
        }
        return sum;
    }

    Frac rest(int coins, Frac gets) {
        return Frac.of((long) a * coins, 10).plus(gets.times(Frac.of(b, 10)));
    }

    double[] lowered(int bits, int[] coins) {
        double[][] parts = new double[n][3];
        for (double[] row : parts) {
            Arrays.fill(row, 1);
        }
        double[] pays = new double[n];
        for (int h = 0; h < n; h++) {
            pays[h] = due(h);
        }
        int[][] dues = new int[n][3];
        for (int h = 0; h < n; h++) {
            for (int k = 0; k < 3; k++) {
                dues[h][k] = due(h, k);
            }
        }
        for (int step = 0; step < 3000000; step++) {
            double change = 0;
            for (int h = 0; h < n; h++) {
                if ((bits >> h & 1) == 0) {
                    continue;
                }
                double sum = 0;
                for (int from = 0; from < n; from++) {
                    for (int k = 0; k < 3; k++) {
                        sum += owed[from][h][k] * parts[from][k];
                    }
                }
                double next = Math.min(pays[h], (a * coins[h] + b * sum) / 10);
                change = Math.max(change, pays[h] - next);
                pays[h] = next;
                double rest = next;
                for (int k = 0; k < 3; k++) {
                    int d = dues[h][k];
                    parts[h][k] = d == 0 ? 1 : Math.min(1, rest / d);
                    rest = Math.max(0, rest - d);
                }
            }
            if (change < 1e-12) {
                break;
            }
        }
        return pays;
    }

    static final double NEAR = 1e-6;

    Frac[][] solve(int bits, int[] coins) {
        double[] about = lowered(bits, coins);
        // choices of a house: {class, 1: in part | 0: that many classes whole}
        List<List<int[]>> choices = new ArrayList<>();
        for (int h = 0; h < n; h++) {
            List<int[]> mine = new ArrayList<>();
            if ((bits >> h & 1) != 0) {
                int sum = 0;
                for (int k = 0; k < 3; k++) {
                    int d = due(h, k);
                    if (d > 0 && about[h] > sum - NEAR && about[h] < sum + d + NEAR) {
                        mine.add(new int[] {k, 1});
                    }
                    sum += d;
                }
                sum = 0;
                for (int k = 0; k <= 3; k++) {
                    if (Math.abs(about[h] - sum) < NEAR) {
                        mine.add(new int[] {k, 0});
                    }
                    sum += k < 3 ? due(h, k) : 0;
                }
            } else {
                mine.add(new int[] {3, 0});
            }
            choices.add(mine);
        }
        Frac[][] best = null;
        int[] pick = new int[n];
        while (true) {
            int[][] ways = new int[n][];
            for (int h = 0; h < n; h++) {
                ways[h] = choices.get(h).get(pick[h]);
            }
            Frac[][] found = exact(bits, coins, ways);
            if (found != null && (best == null || isAbove(found, best))) {
                best = found;
            }
            int at = 0;
            while (at < n && ++pick[at] == choices.get(at).size()) {
                pick[at++] = 0;
            }
            if (at == n) {
                break;
            }
        }
        for (int h = 0; h < n; h++) {
            double pays = 0;
            for (int k = 0; k < 3; k++) {
                pays += due(h, k) * best[h][k].p.doubleValue() / best[h][k].q.doubleValue();
            }
            if (Math.abs(pays - about[h]) > NEAR) {
                throw new IllegalStateException("payments that don't rest");
            }
        }
        return best;
    }

    boolean isAbove(Frac[][] one, Frac[][] other) {
        boolean up = false;
        boolean down = false;
        for (int h = 0; h < n; h++) {
            for (int k = 0; k < 3; k++) {
                int order = one[h][k].compareTo(other[h][k]);
                up |= order > 0;
                down |= order < 0;
            }
        }
        if (up && down) {
            throw new IllegalStateException("neither is greater");
        }
        return up;
    }

    // The payments of these ways, if there are such, and just one; null otherwise.
    Frac[][] exact(int bits, int[] coins, int[][] ways) {
        List<Integer> free = new ArrayList<>();
        Frac[][] parts = new Frac[n][3];
        for (int h = 0; h < n; h++) {
            for (int k = 0; k < 3; k++) {
                boolean whole = due(h, k) == 0 || k < ways[h][0];
                parts[h][k] = whole ? Frac.ONE : Frac.ZERO;
            }
            if (ways[h][1] == 1) {
                free.add(h);
            }
        }
        int m = free.size();
        Frac[][] rows = new Frac[m][m + 1];
        for (int r = 0; r < m; r++) {
            int h = free.get(r);
            Frac held = Frac.ZERO;
            for (int k = 0; k < ways[h][0]; k++) {
                held = held.plus(Frac.of(due(h, k)));
            }
            for (int s = 0; s < m; s++) {
                int from = free.get(s);
                Frac pull = Frac.of((long) b * owed[from][h][ways[from][0]], 10);
                rows[r][s] = (r == s ? Frac.of(due(h, ways[h][0])) : Frac.ZERO).minus(pull);
            }
            rows[r][m] = rest(coins[h], gets(parts, h)).minus(held);
        }
        Frac[] t = eliminate(rows, m);
        if (t == null) {
            return null;
        }
        for (int r = 0; r < m; r++) {
            if (t[r].p.signum() < 0 || t[r].compareTo(Frac.ONE) > 0) {
                return null;
            }
            parts[free.get(r)][ways[free.get(r)][0]] = t[r];
        }
        for (int h = 0; h < n; h++) {
            if ((bits >> h & 1) != 0) {
                if (!Arrays.equals(parts[h], partsOf(h, rest(coins[h], gets(parts, h))))) {
                    return null;
                }
            }
        }
        return parts;
    }

    static Frac[] eliminate(Frac[][] rows, int m) {
        for (int k = 0; k < m; k++) {
            int pivot = k;
            while (pivot < m && rows[pivot][k].isZero()) {
                pivot++;
            }
            if (pivot == m) {
                return null;
            }
            Frac[] row = rows[pivot];
            rows[pivot] = rows[k];
            rows[k] = row;
            for (int r = 0; r < m; r++) {
                if (r != k && !rows[r][k].isZero()) {
                    Frac f = rows[r][k].by(row[k]);
                    for (int s = k; s <= m; s++) {
                        rows[r][s] = rows[r][s].minus(f.times(row[s]));
                    }
                }
            }
        }
        Frac[] t = new Frac[m];
        for (int k = 0; k < m; k++) {
            t[k] = rows[k][m].by(rows[k][k]);
        }
        return t;
    }

    Result clearing(int[] coins) {
        Result result = new Result();
        int bits = 0;
        while (true) {
            Frac[][] parts = solve(bits, coins);
            result.rounds.add(parts);
            int more = 0;
            for (int h = 0; h < n; h++) {
                Frac worth = gets(parts, h).plus(Frac.of(coins[h]));
                if ((bits >> h & 1) == 0 && worth.compareTo(Frac.of(due(h))) < 0) {
                    more |= 1 << h;
                    result.waveOf[h] = result.waves + 1;
                }
            }
            if (more == 0) {
                return result;
            }
            result.waves++;
            bits |= more;
        }
    }

    Result now;
    String nowKey = "";

    Result now() {
        String key = n + " " + a + " " + b + Arrays.toString(cash) + Arrays.deepToString(owed);
        if (!key.equals(nowKey)) {
            now = clearing(cash);
            nowKey = key;
        }
        return now;
    }

    // ---- the clearing

    int waves() {
        return now().waves;
    }

    int wave(int house) {
        return h(house) ? now().waveOf[house] : NONE;
    }

    int fails() {
        return now().bits();
    }

    long part(int house, int cls, int which) {
        return partIn(now().waves, house, cls, which);
    }

    long partIn(int round, int house, int cls, int which) {
        if (round < 0 || round > now().waves || !h(house) || !c(cls)) {
            return NO;
        }
        return now().rounds.get(round)[house][cls].tell(which);
    }

    long paid(int from, int to, int cls, int which) {
        if (!h(from) || !h(to) || from == to || !c(cls)) {
            return NO;
        }
        return now().last()[from][cls].times(owed[from][to][cls]).tell(which);
    }

    long gets(int house, int which) {
        return h(house) ? gets(now().last(), house).tell(which) : NO;
    }

    long worthIn(int round, int house, int which) {
        if (round < 0 || round > now().waves || !h(house)) {
            return NO;
        }
        return gets(now().rounds.get(round), house).plus(Frac.of(cash[house])).tell(which);
    }

    Frac leftOf(int house) {
        if (now().waveOf[house] > 0) {
            return Frac.ZERO;
        }
        return gets(now().last(), house).plus(Frac.of(cash[house] - due(house)));
    }

    Frac lostOf(int house) {
        if (now().waveOf[house] == 0) {
            return Frac.ZERO;
        }
        Frac gets = gets(now().last(), house);
        return gets.plus(Frac.of(cash[house])).minus(rest(cash[house], gets));
    }

    long left(int house, int which) {
        return h(house) ? leftOf(house).tell(which) : NO;
    }

    long lost(int house, int which) {
        return h(house) ? lostOf(house).tell(which) : NO;
    }

    Frac lacksIn(int round, int house, int from) {
        Frac sum = Frac.ZERO;
        for (int k = 0; k < 3; k++) {
            Frac part = now().rounds.get(round)[from][k];
            sum = sum.plus(Frac.ONE.minus(part).times(owed[from][house][k]));
        }
        return sum;
    }

    long lacks(int house, int from, int which) {
        return !h(house) || !h(from) || house == from ? NO : lacksIn(now().waves, house, from).tell(which);
    }

    Frac allPaid(Frac[][] parts) {
        Frac sum = Frac.ZERO;
        for (int house = 0; house < n; house++) {
            for (int k = 0; k < 3; k++) {
                sum = sum.plus(parts[house][k].times(due(house, k)));
            }
        }
        return sum;
    }

    long all(int what, int which) {
        Frac sum = Frac.ZERO;
        if (what == 0) {
            sum = allPaid(now().last());
        } else if (what == 1 || what == 2) {
            for (int house = 0; house < n; house++) {
                sum = sum.plus(what == 1 ? leftOf(house) : lostOf(house));
            }
        } else {
            return NO;
        }
        return sum.tell(which);
    }

    List<Integer> chainOf(int house) {
        List<Integer> chain = new ArrayList<>();
        int at = house;
        while (at >= 0) {
            chain.add(at);
            int wave = now().waveOf[at];
            int found = -1;
            Frac most = null;
            for (int from = 0; from < n; from++) {
                if (from != at && now().waveOf[from] > 0 && now().waveOf[from] < wave) {
                    Frac lack = lacksIn(wave - 1, at, from);
                    if (most == null || lack.compareTo(most) > 0) {
                        most = lack;
                        found = from;
                    }
                }
            }
            at = found;
        }
        return chain;
    }

    int cause(int house) {
        if (!h(house)) {
            return NONE;
        }
        if (now().waveOf[house] == 0) {
            return STATE;
        }
        return now().waveOf[house] == 1 ? -5 : chainOf(house).get(1);
    }

    int chain(int house, int k) {
        if (!h(house) || k < 0 || k > 4) {
            return NONE;
        }
        if (now().waveOf[house] == 0) {
            return STATE;
        }
        List<Integer> chain = chainOf(house);
        return k < chain.size() ? chain.get(k) : -5;
    }

    int root(int house) {
        if (!h(house)) {
            return NONE;
        }
        if (now().waveOf[house] == 0) {
            return STATE;
        }
        List<Integer> chain = chainOf(house);
        return chain.get(chain.size() - 1);
    }

    int pulls(int house) {
        if (!h(house)) {
            return NONE;
        }
        int many = 0;
        for (int start = 0; start < n; start++) {
            if (now().waveOf[start] > 0 && chainOf(start).contains(house)) {
                many++;
            }
        }
        return many;
    }

    // ---- in coins

    /** What is paid behind all steps, and how many there are. */
    static final class Stepped {
        int[][][] paid;
        int steps;
    }

    int getsCoins(int[][][] paid, int house) {
        int sum = 0;
        for (int from = 0; from < n; from++) {
            sum += Arrays.stream(paid[from][house]).sum();
        }
        return sum;
    }

    Stepped stepped() {
        Stepped s = new Stepped();
        s.paid = owed;
        while (true) {
            int[][][] next = new int[5][5][3];
            for (int house = 0; house < n; house++) {
                int gets = getsCoins(s.paid, house);
                int rest = cash[house] + gets < due(house) ? (a * cash[house] + b * gets) / 10 : 100000;
                for (int k = 0; k < 3; k++) {
                    int d = due(house, k);
                    for (int to = 0; to < n; to++) {
                        int v = owed[house][to][k];
                        next[house][to][k] = rest >= d ? v : v * rest / d;
                    }
                    rest = Math.max(0, rest - d);
                }
            }
            if (Arrays.deepEquals(next, s.paid)) {
                return s;
            }
            s.paid = next;
            s.steps++;
        }
    }

    int coin(int from, int to, int cls) {
        return !h(from) || !h(to) || from == to || !c(cls) ? NONE : stepped().paid[from][to][cls];
    }

    int steps() {
        return stepped().steps;
    }

    int coinFails() {
        Stepped s = stepped();
        int bits = 0;
        for (int house = 0; house < n; house++) {
            if (cash[house] + getsCoins(s.paid, house) < due(house)) {
                bits |= 1 << house;
            }
        }
        return bits;
    }

    int gone() {
        Stepped s = stepped();
        int sum = 0;
        for (int house = 0; house < n; house++) {
            int gets = getsCoins(s.paid, house);
            if (cash[house] + gets < due(house)) {
                sum += cash[house] + gets - (a * cash[house] + b * gets) / 10;
            }
        }
        return sum;
    }

    // ---- coins that come and go

    Result with(int house, int change) {
        int[] coins = cash.clone();
        coins[house] = Math.max(0, coins[house] + change);
        return clearing(coins);
    }

    int saved(int x, int house) {
        if (!h(house)) {
            return NONE;
        }
        return x < 0 || x > 200 ? BAD : with(house, x).bits();
    }

    int struck(int x, int house) {
        if (!h(house)) {
            return NONE;
        }
        return x < 0 || x > 200 ? BAD : with(house, -x).bits();
    }

    int savesMost(int[] coins, int x, int how) {
        int found = -1;
        int fewest = 0;
        Frac most = null;
        for (int house = 0; house < n; house++) {
            int[] more = coins.clone();
            more[house] += x;
            Result r = clearing(more);
            int many = Integer.bitCount(r.bits());
            Frac paid = allPaid(r.last());
            boolean better;
            if (found < 0) {
                better = true;
            } else if (how == 0) {
                better = many < fewest || many == fewest && paid.compareTo(most) > 0;
            } else {
                better = paid.compareTo(most) > 0 || paid.equals(most) && many < fewest;
            }
            if (better) {
                found = house;
                fewest = many;
                most = paid;
            }
        }
        return found;
    }

    int saves(int x, int how) {
        if (how < 0 || how > 1) {
            return NONE;
        }
        return x < 0 || x > 200 ? BAD : savesMost(cash, x, how);
    }

    int needs(int house, int to) {
        if (!h(house) || !h(to)) {
            return NONE;
        }
        for (int x = 0; x <= 200; x++) {
            if (with(to, x).waveOf[house] == 0) {
                return x;
            }
        }
        return -5;
    }

    int calms(int to) {
        if (!h(to)) {
            return NONE;
        }
        for (int x = 0; x <= 200; x++) {
            if (with(to, x).bits() == 0) {
                return x;
            }
        }
        return -5;
    }

    int danger() {
        int found = 0;
        int most = -1;
        for (int house = 0; house < n; house++) {
            int many = Integer.bitCount(with(house, -cash[house]).bits());
            if (many > most) {
                most = many;
                found = house;
            }
        }
        return found;
    }

    int rescue(int row, int i, int x, int many, int how) {
        if (row < 0 || row > 3 || how < 0 || how > 1) {
            return NONE;
        }
        if (x < 1 || x > 30 || many < 1 || many > 6) {
            return BAD;
        }
        if (rows[row] == null) {
            return -11;
        }
        int[] coins = cash.clone();
        for (int time = 0; time < many; time++) {
            coins[savesMost(coins, x, how)] += x;
        }
        long[] given = new long[n];
        for (int house = 0; house < n; house++) {
            given[house] = coins[house] - cash[house];
        }
        return laid(row, i, given) ? clearing(coins).bits() : -13;
    }

    boolean laid(int row, int i, long[] values) {
        if (i < 0) {
            return false;
        }
        for (int k = 0; k < values.length; k++) {
            if ((long) i + k >= rows[row].length) {
                return false;
            }
            rows[row][i + k] = values[k];
        }
        return true;
    }

    // ---- rings

    // Every order of unlike houses is tried; the first is the least by its letters.
    List<Integer> firstRing(int cls) {
        String best = null;
        List<String> paths = new ArrayList<>();
        for (int house = 0; house < n; house++) {
            paths.add("" + house);
        }
        while (!paths.isEmpty()) {
            List<String> longer = new ArrayList<>();
            for (String path : paths) {
                int first = path.charAt(0) - '0';
                int last = path.charAt(path.length() - 1) - '0';
                if (owed[last][first][cls] > 0 && (best == null || path.compareTo(best) < 0)) {
                    best = path;
                }
                for (int next = first + 1; next < n; next++) {
                    if (path.indexOf('0' + next) < 0 && owed[last][next][cls] > 0) {
                        longer.add(path + next);
                    }
                }
            }
            paths = longer;
        }
        List<Integer> ring = new ArrayList<>();
        for (int k = 0; best != null && k < best.length(); k++) {
            ring.add(best.charAt(k) - '0');
        }
        return ring;
    }

    int ring(int cls, int k) {
        if (!c(cls) || k < 0 || k > 4) {
            return NONE;
        }
        List<Integer> ring = firstRing(cls);
        return k < ring.size() ? ring.get(k) : -5;
    }

    int net(int cls) {
        if (!c(cls)) {
            return NONE;
        }
        int off = 0;
        for (List<Integer> ring = firstRing(cls); !ring.isEmpty(); ring = firstRing(cls)) {
            int m = ring.size();
            int least = 20;
            for (int k = 0; k < m; k++) {
                least = Math.min(least, owed[ring.get(k)][ring.get((k + 1) % m)][cls]);
            }
            for (int k = 0; k < m; k++) {
                owed[ring.get(k)][ring.get((k + 1) % m)][cls] -= least;
            }
            off += m * least;
        }
        return off;
    }

    // ---- funds

    long units(int fund, int house, int cls, long u) {
        if (fund < 0 || fund > 2 || !h(house) || !c(cls)) {
            return NONE;
        }
        if (u < 0 || u > 1000000000000L) {
            return BAD;
        }
        long was = units[fund][house][cls];
        units[fund][house][cls] = u;
        return was;
    }

    long unitsOf(int fund, int house, int cls) {
        return fund < 0 || fund > 2 || !h(house) || !c(cls) ? NO : units[fund][house][cls];
    }

    boolean isLong(BigInteger v) {
        return v.bitLength() < 64;
    }

    Frac worth(int fund) {
        BigInteger x = BigInteger.ZERO;
        BigInteger y = BigInteger.ONE;
        for (int house = 0; house < n; house++) {
            for (int k = 0; k < 3; k++) {
                if (units[fund][house][k] > 0) {
                    Frac part = now().last()[house][k];
                    BigInteger ad = x.multiply(part.q);
                    BigInteger uc = BigInteger.valueOf(units[fund][house][k]).multiply(part.p);
                    BigInteger ucb = uc.multiply(y);
                    BigInteger bd = y.multiply(part.q);
                    if (!isLong(ad) || !isLong(uc) || !isLong(ucb) || !isLong(bd) || !isLong(ad.add(ucb))) {
                        return null;
                    }
                    Frac sum = new Frac(ad.add(ucb), bd);
                    x = sum.p;
                    y = sum.q;
                }
            }
        }
        return new Frac(x, y);
    }

    boolean hasUnits(int fund) {
        return Arrays.stream(units[fund]).flatMapToLong(Arrays::stream).anyMatch(u -> u > 0);
    }

    long fund(int fund, int which) {
        if (fund < 0 || fund > 2) {
            return NO;
        }
        Frac worth = worth(fund);
        return worth == null ? NO : worth.tell(which);
    }

    int told(int fund) {
        if (fund < 0 || fund > 2) {
            return NONE;
        }
        if (!hasUnits(fund)) {
            return STATE;
        }
        return worth(fund) == null ? OVER : 1;
    }

    int best() {
        int found = -5;
        Frac most = null;
        for (int fund = 0; fund < 3; fund++) {
            Frac worth = worth(fund);
            if (hasUnits(fund) && worth != null && (most == null || worth.compareTo(most) > 0)) {
                most = worth;
                found = fund;
            }
        }
        return found;
    }

    int spell() {
        StringBuilder s = new StringBuilder();
        for (int wave = 1; wave <= now().waves; wave++) {
            for (int house = 0; house < n; house++) {
                if (now().waveOf[house] == wave) {
                    Frac pays = Frac.ZERO;
                    for (int k = 0; k < 3; k++) {
                        pays = pays.plus(now().last()[house][k].times(due(house, k)));
                    }
                    s.append(s.length() > 0 ? " " : "").append((char) ('a' + house)).append(wave).append(':');
                    s.append(pays.q.equals(BigInteger.ONE) ? pays.p.toString() : pays.toString());
                }
            }
        }
        text = s.toString();
        return text.length();
    }

    int paper(int i) {
        return i >= 0 && i < text.length() ? text.charAt(i) : NONE;
    }

    int count(int what) {
        switch (what) {
            case 0: return n;
            case 1: return a;
            case 2: return b;
            case 3: return Arrays.stream(cash).sum();
            case 4: return due(0) + due(1) + due(2) + due(3) + due(4);
            case 5: return tape.size();
            case 6: return text.length();
            case 7:
                int many = 0;
                for (int[][] x : owed) {
                    for (int[] y : x) {
                        many += (int) Arrays.stream(y).filter(v -> v > 0).count();
                    }
                }
                return many;
            default:
                if (what >= 10 && what <= 14) {
                    return h(what - 10) ? cash[what - 10] : NONE;
                }
                if (what >= 20 && what <= 34) {
                    return h((what - 20) / 3) ? due((what - 20) / 3, (what - 20) % 3) : NONE;
                }
                return NONE;
        }
    }

    // ---- rows, the image

    int row(int row, int m) {
        if (row < 0 || row > 3) {
            return NONE;
        }
        if (m > 20) {
            return BAD;
        }
        if (m < 0) {
            return -14;
        }
        rows[row] = new long[m];
        return 1;
    }

    int set(int row, int i, long v) {
        if (row < 0 || row > 3) {
            return NONE;
        }
        if (rows[row] == null) {
            return -11;
        }
        if (i < 0 || i >= rows[row].length) {
            return -13;
        }
        rows[row][i] = v;
        return 1;
    }

    long get(int row, int i) {
        return row < 0 || row > 3 || rows[row] == null || i < 0 || i >= rows[row].length ? NO : rows[row][i];
    }

    int lay(int row, int i) {
        if (row < 0 || row > 3) {
            return NONE;
        }
        if (rows[row] == null) {
            return -11;
        }
        BigInteger below = BigInteger.ONE;
        for (Frac[] house : now().last()) {
            for (Frac part : house) {
                below = below.multiply(part.q).divide(below.gcd(part.q));
            }
        }
        long[] values = new long[3 * n + 1];
        for (int k = 0; k < 3 * n; k++) {
            Frac part = now().last()[k / 3][k % 3];
            values[k] = part.p.multiply(below.divide(part.q)).longValueExact();
        }
        values[3 * n] = below.longValueExact();
        if (values[3 * n] > 1000000000000000L) {
            throw new IllegalStateException("below is too great");
        }
        return laid(row, i, values) ? 3 * n + 1 : -13;
    }

    int judge(int row, int i) {
        if (row < 0 || row > 3) {
            return NONE;
        }
        if (rows[row] == null || i < 0 || (long) i + 3 * n + 1 > rows[row].length) {
            return STATE;
        }
        long below = rows[row][i + 3 * n];
        if (below < 1 || below > 1000000000000000L) {
            return BAD;
        }
        Frac[][] parts = new Frac[n][3];
        for (int k = 0; k < 3 * n; k++) {
            long v = rows[row][i + k];
            if (v < 0 || v > below) {
                return BAD;
            }
            parts[k / 3][k % 3] = Frac.of(v, below);
        }
        for (int house = 0; house < n; house++) {
            Frac gets = gets(parts, house);
            boolean fails = gets.plus(Frac.of(cash[house])).compareTo(Frac.of(due(house))) < 0;
            Frac pays = fails ? rest(cash[house], gets) : Frac.of(due(house));
            if (!Arrays.equals(parts[house], partsOf(house, pays))) {
                return 0;
            }
        }
        return Arrays.deepEquals(parts, now().last()) ? 2 : 1;
    }

    int image() {
        image = new Object[] {n, a, b, cash.clone(), deep(owed), deep(units)};
        return n;
    }

    int undo() {
        if (image == null) {
            return STATE;
        }
        n = (Integer) image[0];
        a = (Integer) image[1];
        b = (Integer) image[2];
        cash = ((int[]) image[3]).clone();
        owed = deep((int[][][]) image[4]);
        units = deep((long[][][]) image[5]);
        return n;
    }

    static int[][][] deep(int[][][] x) {
        int[][][] y = new int[x.length][x[0].length][];
        for (int k = 0; k < x.length; k++) {
            for (int m = 0; m < x[k].length; m++) {
                y[k][m] = x[k][m].clone();
            }
        }
        return y;
    }

    static long[][][] deep(long[][][] x) {
        long[][][] y = new long[x.length][x[0].length][];
        for (int k = 0; k < x.length; k++) {
            for (int m = 0; m < x[k].length; m++) {
                y[k][m] = x[k][m].clone();
            }
        }
        return y;
    }
}
