/**
 * What houses can pay that owe each other: debts of three classes, cash, costs of failing; who
 * fails in waves, each solved exactly by the greatest payments that agree.
 *
 * Nothing is made behind the constructors: every row that a call works on is kept and used again.
 */
public final class ClearingWaves {
    public static final int NONE = -1, BAD = -2, STATE = -3, FULL = -4, OVER = -6;
    public static final long NO = Long.MIN_VALUE;

    private static final int NOT_SO = -5, NOTHING = -11, BEYOND = -13, BELOW = -14, FAULTS = -100;
    private static final int HOUSES = 5, LEAST_HOUSES = 2, CLASSES = 3, FUNDS = 3;
    private static final int MOST_CASH = 200, MOST_OWED = 20, TENTHS = 10;
    private static final int MOST_GIVEN = 30, MOST_TIMES = 6;
    private static final long MOST_UNITS = 1000000000000L, MOST_BELOW = 1000000000000000L;
    private static final long GREATEST = 9223372036854775807L;

    private final Book book;
    private final Book kept;
    private boolean isKept;
    private final int[] purse;
    private final int[] given;
    private final Clearing present;
    private final Clearing trial;
    private boolean presentIsOld;
    private final Coins wholeCoins;
    private boolean coinsAreOld;
    private final Rings rings;
    private final Worth worth;
    private final Told toldParts;
    private final Tape tape;
    private final Paper page;
    private final Rows rows;

    public ClearingWaves() {
        book = new Book();
        kept = new Book();
        purse = new int[HOUSES];
        given = new int[HOUSES];
        present = new Clearing(book, book.cash);
        trial = new Clearing(book, purse);
        wholeCoins = new Coins(book);
        rings = new Rings(book);
        worth = new Worth();
        toldParts = new Told();
        tape = new Tape();
        page = new Paper();
        rows = new Rows();
        presentIsOld = true;
        coinsAreOld = true;
    }

    // ---- what is told

    public int houses(int n) {
        if (n < LEAST_HOUSES || n > HOUSES) {
            return BAD;
        }
        book.begin(n);
        noteChange();
        return n;
    }

    public int cash(int house, int v) {
        if (!book.hasHouse(house)) {
            return NONE;
        }
        if (v < 0 || v > MOST_CASH) {
            return BAD;
        }
        int was = book.cash[house];
        book.cash[house] = v;
        noteChange();
        return was;
    }

    public int owe(int from, int to, int cls, int v) {
        if (!book.hasDebt(from, to, cls)) {
            return NONE;
        }
        if (v < 0 || v > MOST_OWED) {
            return BAD;
        }
        int was = book.amount(from, to, cls);
        book.put(from, to, cls, v);
        noteChange();
        return was;
    }

    public int owed(int from, int to, int cls) {
        return book.hasDebt(from, to, cls) ? book.amount(from, to, cls) : NONE;
    }

    public int costs(int a, int b) {
        if (a < 0 || a > TENTHS || b < 0 || b > TENTHS) {
            return BAD;
        }
        book.ofCash = a;
        book.ofIncome = b;
        noteChange();
        return 1;
    }

    public int cede(int from, int to, int third, int cls, int v) {
        if (!book.hasDebt(from, to, cls) || !book.hasDebt(from, third, cls) || to == third) {
            return NONE;
        }
        if (v < 1) {
            return BAD;
        }
        int before = book.amount(from, to, cls);
        if (before < v) {
            return STATE;
        }
        int toThird = book.amount(from, third, cls) + v;
        if (toThird > MOST_OWED) {
            return FULL;
        }
        book.put(from, to, cls, before - v);
        book.put(from, third, cls, toThird);
        noteChange();
        return 1;
    }

    public int settle(int from, int to, int cls, int v) {
        if (!book.hasDebt(from, to, cls)) {
            return NONE;
        }
        if (v < 1) {
            return BAD;
        }
        int before = book.amount(from, to, cls);
        if (before < v || book.cash[from] < v) {
            return STATE;
        }
        if (book.cash[to] + v > MOST_CASH) {
            return FULL;
        }
        book.put(from, to, cls, before - v);
        book.cash[from] -= v;
        book.cash[to] += v;
        noteChange();
        return 1;
    }

    public int feed(int letter) {
        if (letter < 1 || letter > 127) {
            return BAD;
        }
        return tape.add(letter) ? tape.length : FULL;
    }

    public int clear() {
        return tape.empty();
    }

    public int read() {
        int parts = tape.scan(book, false);
        if (parts > 0) {
            tape.scan(book, true);
            noteChange();
        }
        tape.empty();
        return parts;
    }

    // ---- the clearing

    public int waves() {
        return cleared().waves;
    }

    public int wave(int house) {
        return book.hasHouse(house) ? cleared().waveOf[house] : NONE;
    }

    public int fails() {
        return cleared().fallen;
    }

    public long part(int house, int cls, int which) {
        return partIn(cleared().waves, house, cls, which);
    }

    public long partIn(int round, int house, int cls, int which) {
        Clearing now = cleared();
        if (!now.hasRound(round) || !book.hasPart(house, cls)) {
            return NO;
        }
        return Ratio.tell(now.top(round, house, cls), now.bottom(round), which);
    }

    public long paid(int from, int to, int cls, int which) {
        if (!book.hasDebt(from, to, cls)) {
            return NO;
        }
        Clearing now = cleared();
        long top = now.top(now.waves, from, cls) * book.amount(from, to, cls);
        return Ratio.tell(top, now.bottom(now.waves), which);
    }

    public long gets(int house, int which) {
        if (!book.hasHouse(house)) {
            return NO;
        }
        Clearing now = cleared();
        return Ratio.tell(now.income(now.waves, house), now.bottom(now.waves), which);
    }

    public long worthIn(int round, int house, int which) {
        Clearing now = cleared();
        if (!now.hasRound(round) || !book.hasHouse(house)) {
            return NO;
        }
        return Ratio.tell(now.wealth(round, house), now.bottom(round), which);
    }

    public long left(int house, int which) {
        if (!book.hasHouse(house)) {
            return NO;
        }
        Clearing now = cleared();
        return Ratio.tell(now.remains(house), now.bottom(now.waves), which);
    }

    public long lost(int house, int which) {
        if (!book.hasHouse(house)) {
            return NO;
        }
        Clearing now = cleared();
        return Ratio.tell(now.wasteTenths(house), TENTHS * now.bottom(now.waves), which);
    }

    public long lacks(int house, int from, int which) {
        if (!book.hasHouse(house) || !book.hasHouse(from) || house == from) {
            return NO;
        }
        Clearing now = cleared();
        return Ratio.tell(now.missing(now.waves, house, from), now.bottom(now.waves), which);
    }

    public long all(int what, int which) {
        Clearing now = cleared();
        long below = now.bottom(now.waves);
        long sum = 0;
        switch (what) {
            case 0:
                return Ratio.tell(now.allPaid(), below, which);
            case 1:
                for (int house = 0; house < book.n; house++) {
                    sum += now.remains(house);
                }
                return Ratio.tell(sum, below, which);
            case 2:
                for (int house = 0; house < book.n; house++) {
                    sum += now.wasteTenths(house);
                }
                return Ratio.tell(sum, TENTHS * below, which);
            default:
                return NO;
        }
    }

    public int cause(int house) {
        return chain(house, 1);
    }

    public int chain(int house, int k) {
        if (!book.hasHouse(house) || k < 0 || k >= HOUSES) {
            return NONE;
        }
        Clearing now = cleared();
        if (now.waveOf[house] == 0) {
            return STATE;
        }
        int at = house;
        for (int step = 0; step < k && at >= 0; step++) {
            at = now.causeOf(at);
        }
        return at >= 0 ? at : NOT_SO;
    }

    public int root(int house) {
        if (!book.hasHouse(house)) {
            return NONE;
        }
        Clearing now = cleared();
        if (now.waveOf[house] == 0) {
            return STATE;
        }
        int at = house;
        for (int step = 0; step < HOUSES; step++) {
            int next = now.causeOf(at);
            if (next < 0) {
                break;
            }
            at = next;
        }
        return at;
    }

    public int pulls(int house) {
        if (!book.hasHouse(house)) {
            return NONE;
        }
        Clearing now = cleared();
        int many = 0;
        for (int start = 0; start < book.n; start++) {
            int at = now.waveOf[start] == 0 ? -1 : start;
            for (int step = 0; step < HOUSES && at >= 0 && at != house; step++) {
                at = now.causeOf(at);
            }
            if (at == house) {
                many++;
            }
        }
        return many;
    }

    // ---- in coins

    public int coin(int from, int to, int cls) {
        return book.hasDebt(from, to, cls) ? coined().paidCoins(from, to, cls) : NONE;
    }

    public int steps() {
        return coined().changes;
    }

    public int coinFails() {
        return coined().shortBits();
    }

    public int gone() {
        return coined().waste();
    }

    // ---- coins that come and go

    public int saved(int x, int house) {
        if (!book.hasHouse(house)) {
            return NONE;
        }
        return isCoins(x) ? failsWith(house, x) : BAD;
    }

    public int struck(int x, int house) {
        if (!book.hasHouse(house)) {
            return NONE;
        }
        return isCoins(x) ? failsWith(house, -x) : BAD;
    }

    public int saves(int x, int how) {
        if (how < 0 || how > 1) {
            return NONE;
        }
        if (!isCoins(x)) {
            return BAD;
        }
        loadPurse();
        return mostSaved(x, how);
    }

    public int needs(int house, int to) {
        if (!book.hasHouse(house) || !book.hasHouse(to)) {
            return NONE;
        }
        return leastThatSaves(1 << house, to);
    }

    public int calms(int to) {
        return book.hasHouse(to) ? leastThatSaves((1 << book.n) - 1, to) : NONE;
    }

    public int danger() {
        int most = -1;
        int found = 0;
        for (int house = 0; house < book.n; house++) {
            int many = Integer.bitCount(failsWith(house, -book.cash[house]));
            if (many > most) {
                most = many;
                found = house;
            }
        }
        return found;
    }

    public int rescue(int row, int i, int x, int many, int how) {
        if (!rows.has(row) || how < 0 || how > 1) {
            return NONE;
        }
        if (x < 1 || x > MOST_GIVEN || many < 1 || many > MOST_TIMES) {
            return BAD;
        }
        if (!rows.holds(row)) {
            return NOTHING;
        }
        loadPurse();
        for (int house = 0; house < HOUSES; house++) {
            given[house] = 0;
        }
        for (int time = 0; time < many; time++) {
            int house = mostSaved(x, how);
            given[house] += x;
            purse[house] += x;
        }
        boolean whole = true;
        for (int house = 0; house < book.n; house++) {
            whole = rows.layAt(row, i, house, given[house]) && whole;
        }
        if (!whole) {
            return BEYOND;
        }
        trial.run();
        return trial.fallen;
    }

    // ---- rings

    public int ring(int cls, int k) {
        if (!book.hasClass(cls) || k < 0 || k >= HOUSES) {
            return NONE;
        }
        return k < rings.find(cls) ? rings.path[k] : NOT_SO;
    }

    public int net(int cls) {
        if (!book.hasClass(cls)) {
            return NONE;
        }
        int off = 0;
        for (int debt = 0; debt < HOUSES * HOUSES; debt++) {
            int took = rings.takeOff(cls);
            if (took == 0) {
                break;
            }
            off += took;
        }
        noteChange();
        return off;
    }

    // ---- funds

    public long units(int fund, int house, int cls, long u) {
        if (fund < 0 || fund >= FUNDS || !book.hasPart(house, cls)) {
            return NONE;
        }
        if (u < 0 || u > MOST_UNITS) {
            return BAD;
        }
        int place = Book.unitPlace(fund, house, cls);
        long was = book.units[place];
        book.units[place] = u;
        return was;
    }

    public long unitsOf(int fund, int house, int cls) {
        if (fund < 0 || fund >= FUNDS || !book.hasPart(house, cls)) {
            return NO;
        }
        return book.units[Book.unitPlace(fund, house, cls)];
    }

    public long fund(int fund, int which) {
        if (fund < 0 || fund >= FUNDS || !worth.reckon(book, cleared(), fund)) {
            return NO;
        }
        return Ratio.tell(worth.top, worth.bottom, which);
    }

    public int told(int fund) {
        if (fund < 0 || fund >= FUNDS) {
            return NONE;
        }
        if (!book.hasUnits(fund)) {
            return STATE;
        }
        return worth.reckon(book, cleared(), fund) ? 1 : OVER;
    }

    public int best() {
        int found = NOT_SO;
        long top = 0;
        long bottom = 1;
        for (int fund = 0; fund < FUNDS; fund++) {
            if (!book.hasUnits(fund) || !worth.reckon(book, cleared(), fund)) {
                continue;
            }
            if (found < 0 || Ratio.order(worth.top, worth.bottom, top, bottom) > 0) {
                found = fund;
                top = worth.top;
                bottom = worth.bottom;
            }
        }
        return found;
    }

    public int spell() {
        Clearing now = cleared();
        page.length = 0;
        for (int wave = 1; wave <= now.waves; wave++) {
            for (int house = 0; house < book.n; house++) {
                if (now.waveOf[house] == wave) {
                    spellHouse(house, wave);
                }
            }
        }
        return page.length;
    }

    public int paper(int i) {
        return i >= 0 && i < page.length ? page.bytes[i] : NONE;
    }

    public int count(int what) {
        switch (what) {
            case 0:
                return book.n;
            case 1:
                return book.ofCash;
            case 2:
                return book.ofIncome;
            case 3:
                return book.cashOfAll();
            case 4:
                return book.dueOfAll();
            case 5:
                return tape.length;
            case 6:
                return page.length;
            case 7:
                return book.openDebts();
            default:
                return countOfHouse(what);
        }
    }

    // ---- rows, the image

    public int row(int row, int n) {
        if (!rows.has(row)) {
            return NONE;
        }
        if (n > Rows.PLACES) {
            return BAD;
        }
        if (n < 0) {
            return BELOW;
        }
        rows.begin(row, n);
        return 1;
    }

    public int set(int row, int i, long v) {
        if (!rows.has(row)) {
            return NONE;
        }
        if (!rows.holds(row)) {
            return NOTHING;
        }
        return rows.layAt(row, i, 0, v) ? 1 : BEYOND;
    }

    public long get(int row, int i) {
        return rows.hasPlace(row, i) ? rows.at(row, i) : NO;
    }

    public int lay(int row, int i) {
        if (!rows.has(row)) {
            return NONE;
        }
        if (!rows.holds(row)) {
            return NOTHING;
        }
        Clearing now = cleared();
        int parts = CLASSES * book.n;
        boolean whole = true;
        for (int k = 0; k < parts; k++) {
            long top = now.top(now.waves, k / CLASSES, k % CLASSES);
            whole = rows.layAt(row, i, k, top) && whole;
        }
        whole = rows.layAt(row, i, parts, now.bottom(now.waves)) && whole;
        return whole ? parts + 1 : BEYOND;
    }

    public int judge(int row, int i) {
        if (!rows.has(row)) {
            return NONE;
        }
        int parts = CLASSES * book.n;
        if (!rows.holds(row) || i < 0 || i > rows.size(row) - parts - 1) {
            return STATE;
        }
        toldParts.below = rows.at(row, i + parts);
        for (int k = 0; k < parts; k++) {
            toldParts.tops[k] = rows.at(row, i + k);
        }
        if (!toldParts.areFractions(parts)) {
            return BAD;
        }
        if (toldParts.areThose(cleared(), parts)) {
            return 2;
        }
        return toldParts.agree(book) ? 1 : 0;
    }

    public int image() {
        kept.copy(book);
        isKept = true;
        return kept.n;
    }

    public int undo() {
        if (!isKept) {
            return STATE;
        }
        book.copy(kept);
        noteChange();
        return book.n;
    }

    // ---- behind the face

    private void noteChange() {
        presentIsOld = true;
        coinsAreOld = true;
    }

    private Clearing cleared() {
        if (presentIsOld) {
            present.run();
            presentIsOld = false;
        }
        return present;
    }

    private Coins coined() {
        if (coinsAreOld) {
            wholeCoins.walk();
            coinsAreOld = false;
        }
        return wholeCoins;
    }

    private static boolean isCoins(int x) {
        return x >= 0 && x <= MOST_CASH;
    }

    private void loadPurse() {
        System.arraycopy(book.cash, 0, purse, 0, HOUSES);
    }

    private int failsWith(int house, int change) {
        loadPurse();
        purse[house] = Math.max(0, purse[house] + change);
        trial.run();
        return trial.fallen;
    }

    // More coins never make a house fail that held with fewer, so halving finds the least.
    private int leastThatSaves(int houses, int to) {
        if ((failsWith(to, MOST_CASH) & houses) != 0) {
            return NOT_SO;
        }
        int low = 0;
        int high = MOST_CASH;
        for (int step = 0; step < MOST_CASH && low < high; step++) {
            int middle = (low + high) / 2;
            if ((failsWith(to, middle) & houses) == 0) {
                high = middle;
            } else {
                low = middle + 1;
            }
        }
        return high;
    }

    private int mostSaved(int x, int how) {
        int found = -1;
        int fewest = 0;
        long top = 0;
        long bottom = 1;
        for (int house = 0; house < book.n; house++) {
            purse[house] += x;
            trial.run();
            purse[house] -= x;
            int many = Integer.bitCount(trial.fallen);
            long paidTop = trial.allPaid();
            long paidBottom = trial.bottom(trial.waves);
            int byFails = Integer.compare(fewest, many);
            int byPaid = Ratio.order(paidTop, paidBottom, top, bottom);
            int first = how == 0 ? byFails : byPaid;
            int second = how == 0 ? byPaid : byFails;
            if (found < 0 || first > 0 || first == 0 && second > 0) {
                found = house;
                fewest = many;
                top = paidTop;
                bottom = paidBottom;
            }
        }
        return Math.max(found, 0);
    }

    private void spellHouse(int house, int wave) {
        if (page.length > 0) {
            page.add(' ');
        }
        page.add('a' + house);
        page.addNumber(wave);
        page.add(':');
        long top = present.pays(house);
        long bottom = present.bottom(present.waves);
        page.addNumber(Ratio.tell(top, bottom, 0));
        long below = Ratio.tell(top, bottom, 1);
        if (below != 1) {
            page.add('/');
            page.addNumber(below);
        }
    }

    private int countOfHouse(int what) {
        if (what >= 10 && book.hasHouse(what - 10)) {
            return book.cash[what - 10];
        }
        if (what >= 20 && book.hasHouse((what - 20) / CLASSES)) {
            return book.dueIn((what - 20) / CLASSES, (what - 20) % CLASSES);
        }
        return NONE;
    }

    /** What has been told of houses, debts and funds: all that an image keeps. */
    private static final class Book {
        int n;
        int ofCash;
        int ofIncome;
        final int[] cash = new int[HOUSES];
        final int[] debts = new int[HOUSES * HOUSES * CLASSES];
        final long[] units = new long[FUNDS * HOUSES * CLASSES];

        Book() {
            begin(LEAST_HOUSES);
        }

        void begin(int houses) {
            n = houses;
            ofCash = TENTHS;
            ofIncome = TENTHS;
            for (int k = 0; k < cash.length; k++) {
                cash[k] = 0;
            }
            for (int k = 0; k < debts.length; k++) {
                debts[k] = 0;
            }
            for (int k = 0; k < units.length; k++) {
                units[k] = 0;
            }
        }

        void copy(Book other) {
            n = other.n;
            ofCash = other.ofCash;
            ofIncome = other.ofIncome;
            System.arraycopy(other.cash, 0, cash, 0, cash.length);
            System.arraycopy(other.debts, 0, debts, 0, debts.length);
            System.arraycopy(other.units, 0, units, 0, units.length);
        }

        boolean hasHouse(int house) {
            return house >= 0 && house < n;
        }

        boolean hasClass(int cls) {
            return cls >= 0 && cls < CLASSES;
        }

        boolean hasPart(int house, int cls) {
            return hasHouse(house) && hasClass(cls);
        }

        boolean hasDebt(int from, int to, int cls) {
            return hasPart(from, cls) && hasHouse(to) && from != to;
        }

        static int unitPlace(int fund, int house, int cls) {
            return (fund * HOUSES + house) * CLASSES + cls;
        }

        int amount(int from, int to, int cls) {
            return debts[(from * HOUSES + to) * CLASSES + cls];
        }

        void put(int from, int to, int cls, int v) {
            debts[(from * HOUSES + to) * CLASSES + cls] = v;
        }

        int dueIn(int house, int cls) {
            int sum = 0;
            for (int to = 0; to < n; to++) {
                sum += amount(house, to, cls);
            }
            return sum;
        }

        int dueOf(int house) {
            return dueIn(house, 0) + dueIn(house, 1) + dueIn(house, 2);
        }

        int cashOfAll() {
            int sum = 0;
            for (int house = 0; house < n; house++) {
                sum += cash[house];
            }
            return sum;
        }

        int dueOfAll() {
            int sum = 0;
            for (int house = 0; house < n; house++) {
                sum += dueOf(house);
            }
            return sum;
        }

        int openDebts() {
            int many = 0;
            for (int k = 0; k < debts.length; k++) {
                if (debts[k] > 0) {
                    many++;
                }
            }
            return many;
        }

        boolean hasUnits(int fund) {
            int first = unitPlace(fund, 0, 0);
            for (int k = 0; k < HOUSES * CLASSES; k++) {
                if (units[first + k] > 0) {
                    return true;
                }
            }
            return false;
        }
    }

    /** Fractions that are never below 0, with what is below the line above 0. */
    private static final class Ratio {
        private static final int STEPS = 1000;

        static long divisor(long a, long b) {
            long greater = a;
            long less = b;
            for (int step = 0; step < STEPS && less != 0; step++) {
                long rest = greater % less;
                greater = less;
                less = rest;
            }
            return Math.max(greater, 1);
        }

        static long tell(long top, long bottom, int which) {
            if (which != 0 && which != 1) {
                return NO;
            }
            long common = divisor(top, bottom);
            return which == 0 ? top / common : bottom / common;
        }

        // By whole parts and then by the rests turned over: products across would leave a long.
        static int order(long topA, long bottomA, long topB, long bottomB) {
            long a = topA;
            long below = bottomA;
            long b = topB;
            long belowB = bottomB;
            int sign = 1;
            for (int step = 0; step < STEPS && below > 0 && belowB > 0; step++) {
                long wholeA = a / below;
                long wholeB = b / belowB;
                if (wholeA != wholeB) {
                    return wholeA > wholeB ? sign : -sign;
                }
                long restA = a % below;
                long restB = b % belowB;
                if (restA == 0 || restB == 0) {
                    return restA == restB ? 0 : restA == 0 ? -sign : sign;
                }
                a = below;
                below = restA;
                b = belowB;
                belowB = restB;
                sign = -sign;
            }
            return 0;
        }
    }

    /**
     * Up to five equations in as many unknowns, over whole numbers. Minors are built without any
     * division, so that what wraps around on the way does no harm: all that is read of them at
     * the end fits a long.
     */
    private static final class Equations {
        private static final int WIDTH = HOUSES + 1;
        private final long[] factors = new long[HOUSES * WIDTH];
        private final long[] minors = new long[1 << WIDTH];

        void put(int row, int column, long v) {
            factors[row * WIDTH + column] = v;
        }

        // Column "many" is the side without unknowns.
        void solve(int many) {
            minors[0] = 1;
            for (int mask = 1; mask < 1 << (many + 1); mask++) {
                int rows = Integer.bitCount(mask);
                if (rows <= many) {
                    minors[mask] = expand(mask, rows - 1);
                }
            }
        }

        private long expand(int mask, int row) {
            long sum = 0;
            long sign = 1;
            for (int column = WIDTH - 1; column >= 0; column--) {
                int bit = 1 << column;
                if ((mask & bit) != 0) {
                    sum += sign * factors[row * WIDTH + column] * minors[mask ^ bit];
                    sign = -sign;
                }
            }
            return sum;
        }

        long bottom(int many) {
            return minors[(1 << many) - 1];
        }

        long top(int many, int unknown) {
            long minor = minors[((1 << (many + 1)) - 1) ^ (1 << unknown)];
            return (many - 1 - unknown) % 2 == 0 ? minor : -minor;
        }
    }

    /**
     * The rounds for one purse of each house.
     *
     * A house that fails is either held where a class ends, or pays its class "whole" in part, by
     * a share that the equations tell. Each round goes on from the payments of the one before:
     * they are greater than its own, and nobody's rest is above what it pays by them. So payments
     * need only be lowered, in just those houses that are reached by a loss: a ring of debts that
     * loses nothing stays at the greatest of its many solutions, and equations of houses that a
     * loss reaches have one solution.
     */
    private static final class Clearing {
        private static final int STEPS = 1000;
        private static final int PARTS = HOUSES * CLASSES;
        int waves;
        int fallen;
        final int[] waveOf = new int[HOUSES];
        private final Book book;
        private final int[] purse;
        private final long[] tops = new long[(HOUSES + 1) * PARTS];
        private final long[] bottoms = new long[HOUSES + 1];
        private final int[] due = new int[PARTS];
        private final int[] dueAll = new int[HOUSES];
        private final int[] whole = new int[HOUSES];
        private final boolean[] partly = new boolean[HOUSES];
        private final long[] share = new long[HOUSES];
        private final int[] unknown = new int[HOUSES];
        private final Equations equations = new Equations();
        private long scale;

        Clearing(Book book, int[] purse) {
            this.book = book;
            this.purse = purse;
            begin();
        }

        void run() {
            begin();
            for (int step = 0; step < STEPS; step++) {
                int sinking = sinking();
                if (sinking != 0) {
                    lower(reached(sinking));
                } else {
                    keepRound();
                    if (!nextWave()) {
                        return;
                    }
                }
            }
        }

        private void begin() {
            waves = 0;
            fallen = 0;
            scale = 1;
            for (int house = 0; house < HOUSES; house++) {
                waveOf[house] = 0;
                whole[house] = CLASSES;
                partly[house] = false;
                share[house] = 0;
                dueAll[house] = 0;
                for (int cls = 0; cls < CLASSES; cls++) {
                    int v = book.dueIn(house, cls);
                    due[house * CLASSES + cls] = v;
                    dueAll[house] += v;
                }
            }
            spread();
        }

        // Writes what each house pays now as the parts of the latest round.
        private void spread() {
            bottoms[waves] = scale;
            for (int house = 0; house < HOUSES; house++) {
                for (int cls = 0; cls < CLASSES; cls++) {
                    int k = house * CLASSES + cls;
                    long top = 0;
                    if (cls < whole[house] || due[k] == 0) {
                        top = scale;
                    } else if (cls == whole[house] && partly[house]) {
                        top = share[house];
                    }
                    tops[waves * PARTS + k] = top;
                }
            }
        }

        private boolean fell(int house) {
            return (fallen >> house & 1) != 0;
        }

        private long restTenths(int house) {
            return scale * book.ofCash * purse[house] + book.ofIncome * income(waves, house);
        }

        private long heldTenths(int house) {
            int sum = 0;
            for (int cls = 0; cls < whole[house]; cls++) {
                sum += due[house * CLASSES + cls];
            }
            return scale * TENTHS * sum;
        }

        private int sinking() {
            int bits = 0;
            for (int house = 0; house < book.n; house++) {
                if (fell(house) && !partly[house] && restTenths(house) < heldTenths(house)) {
                    bits |= 1 << house;
                }
            }
            return bits;
        }

        private int rising(int bits) {
            int up = 0;
            for (int house = 0; house < book.n; house++) {
                boolean held = (bits >> house & 1) != 0 && !partly[house];
                if (held && restTenths(house) > heldTenths(house)) {
                    up |= 1 << house;
                }
            }
            return up;
        }

        // The class in which a house pays less, if it pays a little less; -1: it pays nothing.
        private int margin(int house) {
            if (partly[house]) {
                return whole[house];
            }
            int cls = whole[house] - 1;
            while (cls >= 0 && due[house * CLASSES + cls] == 0) {
                cls--;
            }
            return cls;
        }

        private boolean feels(int house, int from) {
            int cls = margin(from);
            return cls >= 0 && book.ofIncome > 0 && book.amount(from, house, cls) > 0;
        }

        // All that fail and get less, if those of the bits pay less.
        private int reached(int sinking) {
            int bits = sinking;
            for (int time = 0; time < HOUSES; time++) {
                for (int from = 0; from < book.n; from++) {
                    for (int house = 0; house < book.n; house++) {
                        if ((bits >> from & 1) != 0 && fell(house) && feels(house, from)) {
                            bits |= 1 << house;
                        }
                    }
                }
            }
            return bits;
        }

        // Holds those houses where their class begins and lets rise whose rest is above that.
        private void lower(int bits) {
            for (int house = 0; house < book.n; house++) {
                if ((bits >> house & 1) != 0) {
                    whole[house] = Math.max(margin(house), 0);
                    partly[house] = false;
                }
            }
            balance();
            for (int time = 0; time < HOUSES; time++) {
                int up = rising(bits);
                if (up == 0) {
                    return;
                }
                for (int house = 0; house < book.n; house++) {
                    if ((up >> house & 1) != 0) {
                        partly[house] = true;
                    }
                }
                balance();
            }
        }

        // Ten times what a house pays is its rest in tenths: an equation of each that pays partly.
        private void balance() {
            int many = 0;
            scale = 1;
            for (int house = 0; house < HOUSES; house++) {
                share[house] = 0;
                if (partly[house]) {
                    unknown[many] = house;
                    many++;
                }
            }
            spread();
            for (int row = 0; row < many; row++) {
                int house = unknown[row];
                for (int column = 0; column < many; column++) {
                    equations.put(row, column, factor(house, unknown[column]));
                }
                equations.put(row, many, restTenths(house) - heldTenths(house));
            }
            equations.solve(many);
            scale = equations.bottom(many);
            for (int row = 0; row < many; row++) {
                share[unknown[row]] = equations.top(many, row);
            }
            spread();
        }

        private long factor(int house, int from) {
            int cls = whole[from];
            if (cls >= CLASSES) {
                return 0;
            }
            if (house == from) {
                return TENTHS * due[house * CLASSES + cls];
            }
            return -book.ofIncome * book.amount(from, house, cls);
        }

        private void keepRound() {
            long common = scale;
            for (int house = 0; house < HOUSES; house++) {
                common = Ratio.divisor(common, share[house]);
            }
            scale /= common;
            for (int house = 0; house < HOUSES; house++) {
                share[house] /= common;
            }
            spread();
        }

        private boolean nextWave() {
            int bits = 0;
            for (int house = 0; house < book.n; house++) {
                if (!fell(house) && wealth(waves, house) < scale * dueAll[house]) {
                    bits |= 1 << house;
                }
            }
            if (bits == 0 || waves >= HOUSES) {
                return false;
            }
            waves++;
            fallen |= bits;
            for (int house = 0; house < book.n; house++) {
                if ((bits >> house & 1) != 0) {
                    waveOf[house] = waves;
                }
            }
            spread();
            return true;
        }

        boolean hasRound(int round) {
            return round >= 0 && round <= waves;
        }

        long bottom(int round) {
            return bottoms[round];
        }

        long top(int round, int house, int cls) {
            return tops[round * PARTS + house * CLASSES + cls];
        }

        // Reads the rows themselves: calls may not go deeper here.
        long income(int round, int house) {
            long sum = 0;
            for (int from = 0; from < book.n; from++) {
                int debt = (from * HOUSES + house) * CLASSES;
                int part = (round * HOUSES + from) * CLASSES;
                for (int cls = 0; cls < CLASSES; cls++) {
                    sum += book.debts[debt + cls] * tops[part + cls];
                }
            }
            return sum;
        }

        long wealth(int round, int house) {
            return bottoms[round] * purse[house] + income(round, house);
        }

        long missing(int round, int house, int from) {
            long sum = 0;
            for (int cls = 0; cls < CLASSES; cls++) {
                sum += book.amount(from, house, cls) * (bottoms[round] - top(round, from, cls));
            }
            return sum;
        }

        long pays(int house) {
            long sum = 0;
            for (int cls = 0; cls < CLASSES; cls++) {
                sum += due[house * CLASSES + cls] * top(waves, house, cls);
            }
            return sum;
        }

        long allPaid() {
            long sum = 0;
            for (int house = 0; house < book.n; house++) {
                sum += pays(house);
            }
            return sum;
        }

        long remains(int house) {
            return fell(house) ? 0 : wealth(waves, house) - bottoms[waves] * dueAll[house];
        }

        long wasteTenths(int house) {
            if (!fell(house)) {
                return 0;
            }
            long ofCash = bottoms[waves] * purse[house] * (TENTHS - book.ofCash);
            return ofCash + income(waves, house) * (TENTHS - book.ofIncome);
        }

        // -1: it is of wave 1, or of none.
        int causeOf(int house) {
            int wave = waveOf[house];
            int found = -1;
            long most = -1;
            for (int from = 0; from < book.n && wave > 1; from++) {
                if (waveOf[from] == 0 || waveOf[from] >= wave) {
                    continue;
                }
                long lack = missing(wave - 1, house, from);
                if (lack > most) {
                    most = lack;
                    found = from;
                }
            }
            return found;
        }
    }

    /** Payments in whole coins, step by step. */
    private static final class Coins {
        // Each step that counts takes a coin or more off 1200 at most.
        private static final int STEPS = 10000;
        int changes;
        private final Book book;
        private final int[] income = new int[HOUSES];
        private final int[] paidNow = new int[HOUSES * HOUSES * CLASSES];

        Coins(Book book) {
            this.book = book;
        }

        void walk() {
            System.arraycopy(book.debts, 0, paidNow, 0, paidNow.length);
            changes = 0;
            for (int step = 0; step < STEPS; step++) {
                takeIn();
                boolean changed = false;
                for (int house = 0; house < book.n; house++) {
                    changed = payOut(house) || changed;
                }
                if (!changed) {
                    return;
                }
                changes++;
            }
        }

        private static int place(int from, int to, int cls) {
            return (from * HOUSES + to) * CLASSES + cls;
        }

        int paidCoins(int from, int to, int cls) {
            return paidNow[place(from, to, cls)];
        }

        private void takeIn() {
            for (int house = 0; house < book.n; house++) {
                income[house] = 0;
                for (int from = 0; from < book.n; from++) {
                    for (int cls = 0; cls < CLASSES; cls++) {
                        income[house] += paidCoins(from, house, cls);
                    }
                }
            }
        }

        private boolean isShort(int house) {
            return book.cash[house] + income[house] < book.dueOf(house);
        }

        private int rest(int house) {
            int tenths = book.ofCash * book.cash[house] + book.ofIncome * income[house];
            return tenths / TENTHS;
        }

        private boolean payOut(int house) {
            boolean all = !isShort(house);
            int coins = rest(house);
            boolean changed = false;
            for (int cls = 0; cls < CLASSES; cls++) {
                int due = book.dueIn(house, cls);
                int usable = all ? due : Math.min(coins, due);
                for (int to = 0; to < book.n; to++) {
                    int k = place(house, to, cls);
                    int pay = due > 0 ? book.debts[k] * usable / due : 0;
                    changed = changed || pay != paidNow[k];
                    paidNow[k] = pay;
                }
                coins -= usable;
            }
            return changed;
        }

        int shortBits() {
            int bits = 0;
            for (int house = 0; house < book.n; house++) {
                if (isShort(house)) {
                    bits |= 1 << house;
                }
            }
            return bits;
        }

        int waste() {
            int sum = 0;
            for (int house = 0; house < book.n; house++) {
                if (isShort(house)) {
                    sum += book.cash[house] + income[house] - rest(house);
                }
            }
            return sum;
        }
    }

    /** The first ring of debts of a class. */
    private static final class Rings {
        final int[] path = new int[HOUSES];
        private final Book book;

        Rings(Book book) {
            this.book = book;
        }

        // How many houses the first ring has; 0: there is none.
        int find(int cls) {
            for (int least = 0; least < book.n; least++) {
                path[0] = least;
                int length = closed(book, cls, path, 1);
                if (length > 0) {
                    return length;
                }
            }
            return 0;
        }

        // A ring that ends here is ahead of those that go on; those go on with the least first.
        private static int closed(Book book, int cls, int[] path, int length) {
            if (length < 1 || length > path.length) {
                return 0;
            }
            int last = path[length - 1];
            if (length > 1 && book.amount(last, path[0], cls) > 0) {
                return length;
            }
            for (int next = path[0] + 1; next < book.n && length < path.length; next++) {
                if (book.amount(last, next, cls) > 0 && !isOn(path, length, next)) {
                    path[length] = next;
                    int found = closed(book, cls, path, length + 1);
                    if (found > 0) {
                        return found;
                    }
                }
            }
            return 0;
        }

        private static boolean isOn(int[] path, int length, int house) {
            for (int k = 0; k < length; k++) {
                if (path[k] == house) {
                    return true;
                }
            }
            return false;
        }

        // Takes the first ring off once: how much, added up; 0: there is none.
        int takeOff(int cls) {
            int length = find(cls);
            int least = MOST_OWED;
            for (int k = 0; k < length; k++) {
                least = Math.min(least, book.amount(path[k], after(k, length), cls));
            }
            for (int k = 0; k < length; k++) {
                int to = after(k, length);
                book.put(path[k], to, cls, book.amount(path[k], to, cls) - least);
            }
            return least * length;
        }

        private int after(int k, int length) {
            return path[k + 1 < length ? k + 1 : 0];
        }
    }

    /** Worth of a fund, refused where a number on the way would be beyond a long. */
    private static final class Worth {
        private static final long REFUSED = -1;
        long top;
        long bottom;

        boolean reckon(Book book, Clearing now, int fund) {
            top = 0;
            bottom = 1;
            for (int k = 0; k < book.n * CLASSES; k++) {
                long units = book.units[Book.unitPlace(fund, k / CLASSES, k % CLASSES)];
                long above = now.top(now.waves, k / CLASSES, k % CLASSES);
                if (units > 0 && !addUnits(units, above, now.bottom(now.waves))) {
                    return false;
                }
            }
            return true;
        }

        private boolean addUnits(long units, long above, long below) {
            long c = Ratio.tell(above, below, 0);
            long d = Ratio.tell(above, below, 1);
            long sum = sum(product(top, d), product(product(units, c), bottom));
            long under = product(bottom, d);
            if (sum == REFUSED || under == REFUSED) {
                return false;
            }
            top = Ratio.tell(sum, under, 0);
            bottom = Ratio.tell(sum, under, 1);
            return true;
        }

        private static long product(long a, long b) {
            if (a < 0 || b < 0 || b > 0 && a > GREATEST / b) {
                return REFUSED;
            }
            return a * b;
        }

        private static long sum(long a, long b) {
            if (a < 0 || b < 0 || a > GREATEST - b) {
                return REFUSED;
            }
            return a + b;
        }
    }

    /** Parts as somebody tells them, all over one number. */
    private static final class Told {
        long below;
        final long[] tops = new long[HOUSES * CLASSES];

        boolean areFractions(int parts) {
            if (below < 1 || below > MOST_BELOW) {
                return false;
            }
            for (int k = 0; k < parts; k++) {
                if (tops[k] < 0 || tops[k] > below) {
                    return false;
                }
            }
            return true;
        }

        // Those of the clearing stand over the least number that they can, so it divides any other.
        boolean areThose(Clearing now, int parts) {
            long least = now.bottom(now.waves);
            if (least < 1 || below % least != 0) {
                return false;
            }
            for (int k = 0; k < parts; k++) {
                long top = now.top(now.waves, k / CLASSES, k % CLASSES);
                if (tops[k] != top * (below / least)) {
                    return false;
                }
            }
            return true;
        }

        boolean agree(Book book) {
            for (int house = 0; house < book.n; house++) {
                if (!agrees(book, house)) {
                    return false;
                }
            }
            return true;
        }

        private boolean agrees(Book book, int house) {
            long income = incomeByTold(book, house);
            boolean fails = below * book.cash[house] + income < below * book.dueOf(house);
            long rest = below * book.ofCash * book.cash[house] + book.ofIncome * income;
            for (int cls = 0; cls < CLASSES; cls++) {
                long due = TENTHS * book.dueIn(house, cls);
                long pays = fails ? Math.min(rest, due * below) : due * below;
                long told = tops[house * CLASSES + cls];
                if (due == 0 ? told != below : told * due != pays) {
                    return false;
                }
                rest -= fails ? pays : 0;
            }
            return true;
        }

        private long incomeByTold(Book book, int house) {
            long sum = 0;
            for (int from = 0; from < book.n; from++) {
                for (int cls = 0; cls < CLASSES; cls++) {
                    sum += book.amount(from, house, cls) * tops[from * CLASSES + cls];
                }
            }
            return sum;
        }
    }

    /** The tape, and debts read from it as a text. */
    private static final class Tape {
        private static final int PLACES = 120;
        int length;
        private final int[] bytes = new int[PLACES];
        private int at;

        boolean add(int letter) {
            if (length >= PLACES) {
                return false;
            }
            bytes[length] = letter;
            length++;
            return true;
        }

        int empty() {
            int was = length;
            length = 0;
            return was;
        }

        // How many parts there are, or what tells the fault; the book changes only if "doing".
        int scan(Book book, boolean doing) {
            at = 0;
            for (int parts = 1; parts <= PLACES; parts++) {
                int fault = scanPart(book, doing);
                if (fault >= 0) {
                    return FAULTS - fault;
                }
                if (at == length) {
                    return parts;
                }
                if (bytes[at] != ';') {
                    break;
                }
                at++;
            }
            return FAULTS - at;
        }

        // -1, or the place of the fault: at the end of the tape that is its length.
        private int scanPart(Book book, boolean doing) {
            int from = house(book);
            if (from < 0) {
                return at;
            }
            at++;
            int marks = 0;
            while (marks < CLASSES && isNext('>')) {
                marks++;
                at++;
            }
            int to = from;
            if (marks > 0) {
                to = house(book);
                if (to < 0 || to == from) {
                    return at;
                }
                at++;
            }
            if (!isNext('=')) {
                return at;
            }
            at++;
            int begin = at;
            int v = number(marks > 0 ? 2 : 3);
            if (at == begin || v > (marks > 0 ? MOST_OWED : MOST_CASH)) {
                return begin;
            }
            if (doing && marks > 0) {
                book.put(from, to, marks - 1, v);
            } else if (doing) {
                book.cash[from] = v;
            }
            return -1;
        }

        private boolean isNext(char sign) {
            return at < length && bytes[at] == sign;
        }

        private int house(Book book) {
            int house = at < length ? bytes[at] - 'a' : -1;
            return book.hasHouse(house) ? house : -1;
        }

        private int number(int figures) {
            int v = 0;
            for (int k = 0; k < figures && at < length; k++) {
                int figure = bytes[at] - '0';
                if (figure < 0 || figure > 9) {
                    break;
                }
                v = v * 10 + figure;
                at++;
            }
            return v;
        }
    }

    /** The latest text. */
    private static final class Paper {
        // Five houses of 37 bytes each is the most.
        private static final int PLACES = 200;
        private static final int FIGURES = 19;
        int length;
        final int[] bytes = new int[PLACES];

        void add(int sign) {
            if (length < PLACES) {
                bytes[length] = sign;
                length++;
            }
        }

        void addNumber(long v) {
            long unit = 1;
            for (int k = 1; k < FIGURES && v / unit >= 10; k++) {
                unit *= 10;
            }
            for (int k = 0; k < FIGURES && unit > 0; k++) {
                add((int) ('0' + v / unit % 10));
                unit /= 10;
            }
        }
    }

    /** Rows of longs. */
    private static final class Rows {
        static final int PLACES = 20;
        private static final int MANY = 4;
        private static final int EMPTY = -1;
        private final int[] sizes = {EMPTY, EMPTY, EMPTY, EMPTY};
        private final long[] places = new long[MANY * PLACES];

        boolean has(int row) {
            return row >= 0 && row < MANY;
        }

        boolean holds(int row) {
            return sizes[row] != EMPTY;
        }

        int size(int row) {
            return sizes[row];
        }

        void begin(int row, int size) {
            sizes[row] = size;
            for (int k = 0; k < PLACES; k++) {
                places[row * PLACES + k] = 0;
            }
        }

        boolean hasPlace(int row, int i) {
            return has(row) && i >= 0 && i < sizes[row];
        }

        long at(int row, int i) {
            return places[row * PLACES + i];
        }

        // Whether place "further" behind a first one is there; nothing is laid behind a first one
        // below 0.
        boolean layAt(int row, int first, int further, long v) {
            if (first < 0 || first >= PLACES || !hasPlace(row, first + further)) {
                return false;
            }
            places[row * PLACES + first + further] = v;
            return true;
        }
    }
}
