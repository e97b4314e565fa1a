/**
 * A maker of tests: a bank of items, a blueprint that a paper must keep, the
 * papers that can be made, shelves for things of a kind, and sheets of numbers.
 *
 * Each method of the face looks at its arguments in the order that the document
 * gives and hands the work to one of the classes inside.
 */
public final class PaperForms {
    private static final int LOW = -1000001;
    private static final long LONG_LOW = -9000000000000000001L;

    private static final int BEYOND = 0;
    private static final int FULL = 1;
    private static final int KIND = 2;
    private static final int NONE = 3;
    private static final int STATE = 4;
    private static final int MISSING = 5;
    private static final int SIZE = 6;
    /** The number of findings; the last of them, OVER, is never answered. */
    private static final int FINDINGS = 8;

    private static final int MOST_ITEMS = 12;
    private static final int AIMS = 4;
    private static final int TOPICS = 4;
    private static final int TEXTS = 4;
    private static final int SHELVES = 4;
    private static final int PLACES = 6;
    private static final int SHEETS = 4;
    private static final int MOST_NUMBERS = 40;
    private static final int RULES = 6;
    /** The sets of six among twelve: no SIZE gives more papers. */
    private static final int MOST_PAPERS = 924;
    private static final int FURTHEST = 64;
    private static final int MOST_TIMES = 20;

    /** What is told of an item, as of() numbers it. */
    private static final int ITS_KIND = 0;
    private static final int ITS_TOPIC = 1;
    private static final int ITS_MINUTES = 2;
    private static final int ITS_SLOPE = 3;
    private static final int ITS_LEVEL = 4;
    private static final int ITS_TEXT = 5;
    private static final int ITS_USED = 6;
    private static final int ITS_ENEMIES = 7;
    private static final int[] FACT_LOWEST = {0, 0, 1, 1, -32, -1, 0};
    private static final int[] FACT_HIGHEST = {5, 3, 20, 12, 32, 3, 999};

    private static final int OPEN = 1;
    private static final int CHOICE = 2;
    private static final int LONG = 3;
    private static final int PAIR = 4;
    private static final int ESSAY = 5;
    /** The kind over each kind; none is over the first. */
    private static final int[] KIND_OVER = {-1, 0, 0, 1, 2, 0};

    /** What rule() sets, as it numbers it. */
    private static final int THE_SIZE = 0;
    private static final int THE_LONGEST = 1;
    private static final int THE_EXPOSED = 2;
    private static final int[] LIMIT_LOWEST = {1, 0, 0};
    private static final int[] LIMIT_HIGHEST = {6, 240, 999};

    private static final int WHOLE = 0;
    private static final int FLOATS = 1;
    private static final int DOUBLES = 2;
    private static final int NO_SORT = -1;

    private final int[] findings = new int[FINDINGS];
    private final Maker maker = new Maker();
    private final Bank bank = maker.bank;
    private final Bank kept = new Bank();
    private boolean isKept;
    private final Shelf[] shelves = new Shelf[SHELVES];
    private final Sheet[] sheets = new Sheet[SHEETS];

    public PaperForms() {
        for (int i = 0; i < SHELVES; i++) {
            shelves[i] = new Shelf();
        }
        for (int i = 0; i < SHEETS; i++) {
            sheets[i] = new Sheet();
        }
    }

    // ---- items

    public int add(int kind, int topic, int minutes, int slope, int level, int text) {
        if (!factFits(ITS_KIND, kind) || !factFits(ITS_TOPIC, topic)
                || !factFits(ITS_MINUTES, minutes) || !factFits(ITS_SLOPE, slope)
                || !factFits(ITS_LEVEL, level) || !factFits(ITS_TEXT, text)) {
            return finding(BEYOND);
        }
        if (bank.items >= MOST_ITEMS) {
            return finding(FULL);
        }
        int item = bank.items;
        bank.items++;
        bank.facts[ITS_KIND][item] = kind;
        bank.facts[ITS_TOPIC][item] = topic;
        bank.facts[ITS_MINUTES][item] = minutes;
        bank.facts[ITS_SLOPE][item] = slope;
        bank.facts[ITS_LEVEL][item] = level;
        bank.facts[ITS_TEXT][item] = text;
        bank.facts[ITS_USED][item] = 0;
        bank.facts[ITS_ENEMIES][item] = 0;
        return item;
    }

    public int of(int item, int what) {
        if (!bank.has(item) || !within(what, ITS_KIND, ITS_ENEMIES)) {
            return finding(BEYOND);
        }
        return bank.facts[what][item];
    }

    public int change(int item, int what, int v) {
        if (!bank.has(item) || !factFits(what, v)) {
            return finding(BEYOND);
        }
        int before = bank.facts[what][item];
        bank.facts[what][item] = v;
        return before;
    }

    public int drop() {
        if (bank.items == 0) {
            return finding(NONE);
        }
        bank.dropLast();
        return bank.items;
    }

    public int as(int item, int kind) {
        if (!bank.has(item) || !factFits(ITS_KIND, kind)) {
            return finding(BEYOND);
        }
        if (!isOfKind(bank.facts[ITS_KIND][item], kind)) {
            return finding(KIND);
        }
        return bank.facts[ITS_MINUTES][item];
    }

    public int enemy(int item, int other, boolean are) {
        if (!bank.has(item) || !bank.has(other) || item == other) {
            return finding(BEYOND);
        }
        int[] enemies = bank.facts[ITS_ENEMIES];
        int before = enemies[item] >> other & 1;
        if (are) {
            enemies[item] |= 1 << other;
            enemies[other] |= 1 << item;
        } else {
            enemies[item] &= ~(1 << other);
            enemies[other] &= ~(1 << item);
        }
        return before;
    }

    // ---- what is told at an ability

    public int slope(int item) {
        if (!bank.has(item)) {
            return finding(BEYOND);
        }
        return Numbers.floatBits(bank.steepness(item));
    }

    public long tells(int item, int v) {
        if (!bank.has(item) || !isAbility(v)) {
            return longFinding(BEYOND);
        }
        return Numbers.doubleBits(bank.tellsAt(item, v));
    }

    public long chance(int item, int v) {
        if (!bank.has(item) || !isAbility(v)) {
            return longFinding(BEYOND);
        }
        return Numbers.doubleBits(bank.chanceAt(item, v));
    }

    public int aim(int k, int v, int weight) {
        if (!within(k, 0, AIMS - 1) || !isAbility(v) || !within(weight, 0, 9)) {
            return finding(BEYOND);
        }
        int before = bank.weights[k];
        bank.abilities[k] = v;
        bank.weights[k] = weight;
        return before;
    }

    public long value(int set) {
        if (!bank.hasAll(set)) {
            return longFinding(BEYOND);
        }
        maker.readAims();
        return Numbers.doubleBits(maker.valueOf(set));
    }

    public int worth(int set) {
        if (!bank.hasAll(set)) {
            return finding(BEYOND);
        }
        maker.readAims();
        return (int) (maker.valueOf(set) * 1000.0);
    }

    public int peak(int set, int from, int to) {
        if (!bank.hasAll(set) || !isAbility(from) || !isAbility(to) || from > to) {
            return finding(BEYOND);
        }
        int peak = from;
        double most = bank.allTellAt(set, from);
        for (int v = from + 1; v <= to; v++) {
            double told = bank.allTellAt(set, v);
            if (told > most) {
                most = told;
                peak = v;
            }
        }
        return peak;
    }

    // ---- the blueprint

    public int topic(int topic, int least, int most) {
        if (!within(topic, 0, TOPICS - 1) || !within(least, 0, 6) || !within(most, 0, 6)
                || least > most) {
            return finding(BEYOND);
        }
        int before = bank.leastAndMost(topic);
        bank.leasts[topic] = least;
        bank.mosts[topic] = most;
        return before;
    }

    public int rule(int what, int v) {
        if (!within(what, THE_SIZE, THE_EXPOSED)
                || !within(v, LIMIT_LOWEST[what], LIMIT_HIGHEST[what])) {
            return finding(BEYOND);
        }
        int before = bank.limits[what];
        bank.limits[what] = v;
        return before;
    }

    public int told(int what) {
        if (within(what, THE_SIZE, THE_EXPOSED)) {
            return bank.limits[what];
        }
        if (within(what, 10, 10 + TOPICS - 1)) {
            return bank.leastAndMost(what - 10);
        }
        if (within(what, 20, 20 + AIMS - 1)) {
            return bank.abilities[what - 20];
        }
        if (within(what, 30, 30 + AIMS - 1)) {
            return bank.weights[what - 30];
        }
        return finding(BEYOND);
    }

    // ---- papers

    public int against(int set) {
        if (!bank.hasAll(set)) {
            return finding(BEYOND);
        }
        maker.readRules();
        return maker.brokenRule(set, 0);
    }

    public int papers() {
        maker.readRules();
        return maker.countPapers(0);
    }

    public int without(int rule) {
        if (!within(rule, 1, RULES)) {
            return finding(BEYOND);
        }
        maker.readRules();
        return maker.countPapers(rule);
    }

    public int best() {
        maker.listPapers();
        int best = maker.bestListed();
        return best < 0 ? finding(NONE) : best;
    }

    public int rank(int set) {
        if (!bank.hasAll(set)) {
            return finding(BEYOND);
        }
        maker.listPapers();
        return maker.countBetter(maker.valueOf(set));
    }

    public int swap(int set, int item) {
        if (!bank.hasAll(set) || !bank.has(item)) {
            return finding(BEYOND);
        }
        maker.readRules();
        if (!maker.isPaper(set)) {
            return finding(STATE);
        }
        if ((set >> item & 1) == 0) {
            return finding(KIND);
        }
        maker.readAims();
        int other = maker.bestInsteadOf(set, item);
        return other < 0 ? finding(NONE) : other;
    }

    public int forms(int what) {
        if (!within(what, 0, 1)) {
            return finding(BEYOND);
        }
        if (!maker.findForms()) {
            return finding(NONE);
        }
        return what == 0 ? maker.firstForm : maker.secondForm;
    }

    public long gap() {
        if (!maker.findForms()) {
            return longFinding(NONE);
        }
        return Numbers.doubleBits(maker.formsGap());
    }

    public int use(int set) {
        if (!bank.hasAll(set)) {
            return finding(BEYOND);
        }
        maker.readRules();
        if (!maker.isPaper(set)) {
            return finding(STATE);
        }
        bank.countUse(set);
        return Integer.bitCount(bank.wornItems());
    }

    public int uses(int n) {
        if (!within(n, 1, MOST_TIMES)) {
            return finding(BEYOND);
        }
        // Once: a use makes no set a paper, and changes no value.
        maker.listPapers();
        for (int done = 0; done < n; done++) {
            int best = maker.bestListed();
            if (best < 0) {
                return done;
            }
            bank.countUse(best);
        }
        return n;
    }

    public int loose(int n) {
        if (!within(n, 1, MOST_TIMES)) {
            return finding(BEYOND);
        }
        maker.readAims();
        int done = 0;
        for (int i = 0; i < n; i++) {
            maker.readRules();
            int first = bank.drawSet();
            int second = bank.drawSet();
            int chosen = maker.betterPaper(first, second);
            if (chosen >= 0) {
                bank.countUse(chosen);
                done++;
            }
        }
        return done;
    }

    public int seed(int v) {
        int before = bank.z;
        bank.z = v;
        return before;
    }

    // ---- shelves

    public int shelf(int shelf, int kind) {
        if (!within(shelf, 0, SHELVES - 1) || !factFits(ITS_KIND, kind)) {
            return finding(BEYOND);
        }
        int stood = shelves[shelf].standing();
        shelves[shelf].becomeFor(kind);
        return stood;
    }

    public int lay(int shelf, int place, int item) {
        if (!within(shelf, 0, SHELVES - 1) || !within(place, 0, PLACES - 1)
                || !bank.has(item)) {
            return finding(BEYOND);
        }
        int kind = bank.facts[ITS_KIND][item];
        if (!isOfKind(kind, shelves[shelf].kind)) {
            return finding(KIND);
        }
        int before = shelves[shelf].numbers[place];
        shelves[shelf].numbers[place] = item;
        shelves[shelf].kinds[place] = kind;
        return before;
    }

    public int stands(int shelf, int place, int what) {
        if (!within(shelf, 0, SHELVES - 1) || !within(place, 0, PLACES - 1)
                || !within(what, 0, 1)) {
            return finding(BEYOND);
        }
        if (shelves[shelf].isEmptyAt(place)) {
            return finding(MISSING);
        }
        return what == 0 ? shelves[shelf].numbers[place] : shelves[shelf].kinds[place];
    }

    public int moves(int shelf, int other) {
        if (!within(shelf, 0, SHELVES - 1) || !within(other, 0, SHELVES - 1)) {
            return finding(BEYOND);
        }
        return shelves[other].takeFrom(shelves[shelf]);
    }

    // ---- sheets

    public int sheet(int s, int sort, int n) {
        if (!isSheet(s) || !within(sort, NO_SORT, DOUBLES)) {
            return finding(BEYOND);
        }
        if (sort == NO_SORT) {
            sheets[s].become(NO_SORT, 0);
            return 0;
        }
        if (n < 0) {
            return finding(SIZE);
        }
        if (n > MOST_NUMBERS) {
            return finding(BEYOND);
        }
        sheets[s].become(sort, n);
        return n;
    }

    public int write(int s, int i, int v) {
        if (!isSheet(s)) {
            return finding(BEYOND);
        }
        if (sheets[s].isMissing()) {
            return finding(MISSING);
        }
        if (!sheets[s].has(i)) {
            return finding(BEYOND);
        }
        sheets[s].put(i, sheets[s].eighths(v));
        return 1;
    }

    public long item(int s, int i) {
        if (!isSheet(s)) {
            return longFinding(BEYOND);
        }
        if (sheets[s].isMissing()) {
            return longFinding(MISSING);
        }
        if (!sheets[s].has(i)) {
            return longFinding(BEYOND);
        }
        return sheets[s].bitsAt(i);
    }

    public int copy(int s, int i, int t, int j, int n) {
        if (!isSheet(s) || !isSheet(t)) {
            return finding(BEYOND);
        }
        if (sheets[s].isMissing() || sheets[t].isMissing()) {
            return finding(MISSING);
        }
        if (sheets[s].sort != sheets[t].sort) {
            return finding(KIND);
        }
        if (!sheets[s].hasRun(i, n) || !sheets[t].hasRun(j, n)) {
            return finding(BEYOND);
        }
        System.arraycopy(sheets[s].row, i, sheets[t].row, j, n);
        return n;
    }

    public int casts(int s, int t) {
        if (!isSheet(s) || !isSheet(t)) {
            return finding(BEYOND);
        }
        if (sheets[s].isMissing() || sheets[t].isMissing()) {
            return finding(MISSING);
        }
        int n = Math.min(sheets[s].length, sheets[t].length);
        for (int i = 0; i < n; i++) {
            sheets[t].put(i, sheets[s].row[i]);
        }
        return n;
    }

    public int table(int s, int item, int from, int step) {
        if (!isSheet(s) || !bank.has(item) || !isAbility(from) || !isAbility(step)) {
            return finding(BEYOND);
        }
        if (sheets[s].isMissing()) {
            return finding(MISSING);
        }
        int v = from;
        for (int i = 0; i < sheets[s].length; i++) {
            if (!isAbility(v)) {
                return i;
            }
            sheets[s].put(i, bank.tellsAt(item, v));
            v += step;
        }
        return sheets[s].length;
    }

    public int rests(int s, int v) {
        if (!isSheet(s) || !within(v, 1, 800)) {
            return finding(BEYOND);
        }
        if (sheets[s].isMissing()) {
            return finding(MISSING);
        }
        double divisor = sheets[s].eighths(v);
        for (int i = 0; i < sheets[s].length; i++) {
            sheets[s].put(i, Numbers.rest(sheets[s].row[i], divisor));
        }
        return sheets[s].length;
    }

    public long sum(int s) {
        if (!isSheet(s)) {
            return longFinding(BEYOND);
        }
        if (sheets[s].isMissing()) {
            return longFinding(MISSING);
        }
        double total = 0.0;
        for (int i = 0; i < sheets[s].length; i++) {
            total += sheets[s].row[i];
        }
        return Numbers.doubleBits(total);
    }

    // ---- images, what is told

    public int image() {
        kept.become(bank);
        isKept = true;
        return 1;
    }

    public int back() {
        if (!isKept) {
            return finding(NONE);
        }
        bank.become(kept);
        return bank.items;
    }

    public int count(int what) {
        switch (what) {
            case 0:
                return bank.items;
            case 1:
                return bank.twosOfEnemies();
            case 2:
                return bank.total(ITS_USED);
            case 3:
                return bank.total(ITS_MINUTES);
            case 4:
                return bank.z;
            case 5:
                return standingOnAll();
            default:
                return finding(BEYOND);
        }
    }

    public int status(int which) {
        if (!within(which, -1, FINDINGS - 1)) {
            return finding(BEYOND);
        }
        if (which >= 0) {
            return findings[which];
        }
        int all = 0;
        for (int k = 0; k < FINDINGS; k++) {
            all += findings[k];
        }
        return all;
    }

    // ---- what the face uses

    private int finding(int k) {
        findings[k]++;
        return LOW - k;
    }

    private long longFinding(int k) {
        findings[k]++;
        return LONG_LOW - k;
    }

    private int standingOnAll() {
        int all = 0;
        for (int i = 0; i < SHELVES; i++) {
            all += shelves[i].standing();
        }
        return all;
    }

    private static boolean within(int v, int lowest, int highest) {
        return v >= lowest && v <= highest;
    }

    private static boolean isAbility(int v) {
        return within(v, -FURTHEST, FURTHEST);
    }

    private static boolean isSheet(int s) {
        return within(s, 0, SHEETS - 1);
    }

    /** Whether v may be what is told of an item; its enemies are no such number. */
    private static boolean factFits(int what, int v) {
        return within(what, ITS_KIND, ITS_USED)
                && within(v, FACT_LOWEST[what], FACT_HIGHEST[what]);
    }

    /** Whether a thing of a kind is of another one: that kind or one under it. */
    private static boolean isOfKind(int kind, int other) {
        int at = kind;
        for (int steps = 0; steps < KIND_OVER.length; steps++) {
            if (at == other) {
                return true;
            }
            if (at < 0 || at >= KIND_OVER.length) {
                return false;
            }
            at = KIND_OVER[at];
        }
        return false;
    }

    /** All that image() keeps: items with their enemies, aims, the blueprint, z. */
    private static final class Bank {
        int items;
        /** By what is told, then by item. */
        final int[][] facts = new int[ITS_ENEMIES + 1][MOST_ITEMS];
        final int[] abilities = new int[AIMS];
        final int[] weights = new int[AIMS];
        final int[] leasts = new int[TOPICS];
        final int[] mosts = {6, 6, 6, 6};
        final int[] limits = {2, 60, 999};
        int z = 1;

        void become(Bank other) {
            items = other.items;
            for (int what = 0; what <= ITS_ENEMIES; what++) {
                System.arraycopy(other.facts[what], 0, facts[what], 0, MOST_ITEMS);
            }
            System.arraycopy(other.abilities, 0, abilities, 0, AIMS);
            System.arraycopy(other.weights, 0, weights, 0, AIMS);
            System.arraycopy(other.leasts, 0, leasts, 0, TOPICS);
            System.arraycopy(other.mosts, 0, mosts, 0, TOPICS);
            System.arraycopy(other.limits, 0, limits, 0, THE_EXPOSED + 1);
            z = other.z;
        }

        boolean has(int item) {
            return item >= 0 && item < items;
        }

        boolean hasAll(int set) {
            return set >= 0 && set < 1 << items;
        }

        void dropLast() {
            items--;
            int left = (1 << items) - 1;
            for (int i = 0; i < items; i++) {
                facts[ITS_ENEMIES][i] &= left;
            }
        }

        int leastAndMost(int topic) {
            return 10 * leasts[topic] + mosts[topic];
        }

        int total(int what) {
            int all = 0;
            for (int i = 0; i < items; i++) {
                all += facts[what][i];
            }
            return all;
        }

        int twosOfEnemies() {
            int all = 0;
            for (int i = 0; i < items; i++) {
                all += Integer.bitCount(facts[ITS_ENEMIES][i]);
            }
            return all / 2;
        }

        /** The items that are told by a number, as a set. */
        int itemsWith(int what, int v) {
            int set = 0;
            for (int i = 0; i < items; i++) {
                if (facts[what][i] == v) {
                    set |= 1 << i;
                }
            }
            return set;
        }

        /** The items that rule 6 keeps out of every paper. */
        int wornItems() {
            int set = 0;
            for (int i = 0; i < items; i++) {
                if (facts[ITS_USED][i] >= limits[THE_EXPOSED]) {
                    set |= 1 << i;
                }
            }
            return set;
        }

        void countUse(int set) {
            for (int i = 0; i < items; i++) {
                facts[ITS_USED][i] += set >> i & 1;
            }
        }

        int drawSet() {
            z = z * 1103515245 + 12345;
            return (z >>> 8) % 4096 & (1 << items) - 1;
        }

        float steepness(int item) {
            return facts[ITS_SLOPE][item] / 4f;
        }

        float distance(int item, int v) {
            return steepness(item) * (v / 8f - facts[ITS_LEVEL][item] / 8f);
        }

        double chanceAt(int item, int v) {
            return chanceAtDistance(distance(item, v));
        }

        private static double chanceAtDistance(float x) {
            return 0.5 + 0.5 * x / (1.0 + Numbers.size(x));
        }

        double tellsAt(int item, int v) {
            double s = steepness(item);
            float x = distance(item, v);
            double p = chanceAtDistance(x);
            double plain = s * s * p * (1.0 - p);
            int minutes = facts[ITS_MINUTES][item];
            switch (facts[ITS_KIND][item]) {
                case OPEN:
                    return plain * 1.25;
                case CHOICE:
                    return plain * p;
                case LONG:
                    return plain * 1.25 + minutes / 64.0;
                case PAIR:
                    return (float) (plain * p) * 0.3f;
                case ESSAY:
                    return minutes / 16.0 + Numbers.rest(Numbers.size(x), 0.75) / 4.0;
                default:
                    return plain;
            }
        }

        double allTellAt(int set, int v) {
            double total = 0.0;
            for (int i = 0; i < items; i++) {
                if ((set >> i & 1) != 0) {
                    total += tellsAt(i, v);
                }
            }
            return total;
        }
    }

    /**
     * Makes papers of its bank's items. What it reads from the bank it keeps in
     * rows of its own, since a call may ask it of thousands of sets: readRules()
     * comes ahead of all that asks for rules, readAims() of all that asks for values.
     */
    private static final class Maker {
        final Bank bank = new Bank();
        int firstForm;
        int secondForm;
        private final int[] onTopic = new int[TOPICS];
        private final int[] withText = new int[TEXTS];
        private int worn;
        /** What each item gives to a value, by aim, then by item. */
        private final double[][] shares = new double[AIMS][MOST_ITEMS];
        private final int[] found = new int[MOST_PAPERS];
        private final double[] values = new double[MOST_PAPERS];
        private int listed;

        void readRules() {
            for (int t = 0; t < TOPICS; t++) {
                onTopic[t] = bank.itemsWith(ITS_TOPIC, t);
            }
            for (int t = 0; t < TEXTS; t++) {
                withText[t] = bank.itemsWith(ITS_TEXT, t);
            }
            worn = bank.wornItems();
        }

        void readAims() {
            for (int k = 0; k < AIMS; k++) {
                for (int i = 0; i < bank.items; i++) {
                    shares[k][i] = bank.tellsAt(i, bank.abilities[k]) * (bank.weights[k] * 0.1f);
                }
            }
        }

        double valueOf(int set) {
            double total = 0.0;
            for (int k = 0; k < AIMS; k++) {
                for (int i = 0; i < bank.items; i++) {
                    if ((set >> i & 1) != 0) {
                        total += shares[k][i];
                    }
                }
            }
            return total;
        }

        boolean isPaper(int set) {
            return brokenRule(set, 0) == 0;
        }

        /** The least rule that isn't so of a set, but for one that is spared; 0: none. */
        int brokenRule(int set, int spared) {
            for (int rule = 1; rule <= RULES; rule++) {
                if (rule != spared && !keeps(set, rule)) {
                    return rule;
                }
            }
            return 0;
        }

        private boolean keeps(int set, int rule) {
            switch (rule) {
                case 1:
                    return Integer.bitCount(set) == bank.limits[THE_SIZE];
                case 2:
                    return keepsTopics(set);
                case 3:
                    return minutesOf(set) <= bank.limits[THE_LONGEST];
                case 4:
                    return keepsPeace(set);
                case 5:
                    return sharesTexts(set);
                default:
                    return (set & worn) == 0;
            }
        }

        private boolean keepsTopics(int set) {
            for (int t = 0; t < TOPICS; t++) {
                int n = Integer.bitCount(set & onTopic[t]);
                if (n < bank.leasts[t] || n > bank.mosts[t]) {
                    return false;
                }
            }
            return true;
        }

        private int minutesOf(int set) {
            int all = 0;
            for (int i = 0; i < bank.items; i++) {
                if ((set >> i & 1) != 0) {
                    all += bank.facts[ITS_MINUTES][i];
                }
            }
            return all;
        }

        private boolean keepsPeace(int set) {
            for (int i = 0; i < bank.items; i++) {
                if ((set >> i & 1) != 0 && (set & bank.facts[ITS_ENEMIES][i]) != 0) {
                    return false;
                }
            }
            return true;
        }

        private boolean sharesTexts(int set) {
            for (int t = 0; t < TEXTS; t++) {
                if (Integer.bitCount(set & withText[t]) == 1) {
                    return false;
                }
            }
            return true;
        }

        int countPapers(int spared) {
            int n = 0;
            for (int set = 0; set < 1 << bank.items; set++) {
                if (brokenRule(set, spared) == 0) {
                    n++;
                }
            }
            return n;
        }

        /** Lists all papers with their values, the least set first. */
        void listPapers() {
            readRules();
            readAims();
            listed = 0;
            for (int set = 0; set < 1 << bank.items && listed < MOST_PAPERS; set++) {
                if (brokenRule(set, 0) == 0) {
                    found[listed] = set;
                    values[listed] = valueOf(set);
                    listed++;
                }
            }
        }

        /** The best of the listed ones that uses since then have left papers; -1: none. */
        int bestListed() {
            int wornByNow = bank.wornItems();
            int best = -1;
            double most = 0.0;
            for (int a = 0; a < listed; a++) {
                if ((found[a] & wornByNow) == 0 && (best < 0 || values[a] > most)) {
                    best = found[a];
                    most = values[a];
                }
            }
            return best;
        }

        int countBetter(double than) {
            int n = 0;
            for (int a = 0; a < listed; a++) {
                if (values[a] > than) {
                    n++;
                }
            }
            return n;
        }

        int bestInsteadOf(int set, int item) {
            int left = set & ~(1 << item);
            int best = -1;
            double most = 0.0;
            for (int i = 0; i < bank.items; i++) {
                int other = left | 1 << i;
                if ((set >> i & 1) == 0 && isPaper(other)) {
                    double v = valueOf(other);
                    if (best < 0 || v > most) {
                        best = i;
                        most = v;
                    }
                }
            }
            return best;
        }

        /** Of two sets the paper with the greater value; -1: neither is a paper. */
        int betterPaper(int first, int second) {
            if (!isPaper(second)) {
                return isPaper(first) ? first : -1;
            }
            if (!isPaper(first)) {
                return second;
            }
            return valueOf(second) > valueOf(first) ? second : first;
        }

        /** Finds the two forms: whether there are any. */
        boolean findForms() {
            listPapers();
            // Below every value; only a greater lesser value takes another one's
            // place, so that of like twos the one with the least sets stays.
            double lesser = -1.0;
            for (int a = 0; a < listed; a++) {
                for (int b = a + 1; b < listed && values[a] > lesser; b++) {
                    if (values[b] > lesser && (found[a] & found[b]) == 0) {
                        lesser = values[a] < values[b] ? values[a] : values[b];
                        firstForm = found[a];
                        secondForm = found[b];
                    }
                }
            }
            return lesser >= 0.0;
        }

        double formsGap() {
            double difference = valueOf(firstForm) - valueOf(secondForm);
            return Numbers.size(difference);
        }
    }

    /** Six places for things of a kind; each thing as it was when it was laid there. */
    private static final class Shelf {
        int kind;
        final int[] numbers = {-1, -1, -1, -1, -1, -1};
        final int[] kinds = new int[PLACES];

        void becomeFor(int newKind) {
            kind = newKind;
            for (int i = 0; i < PLACES; i++) {
                numbers[i] = -1;
            }
        }

        boolean isEmptyAt(int place) {
            return numbers[place] < 0;
        }

        int standing() {
            int n = 0;
            for (int i = 0; i < PLACES; i++) {
                if (!isEmptyAt(i)) {
                    n++;
                }
            }
            return n;
        }

        /** Takes place by place until a thing isn't for this shelf: how many. */
        int takeFrom(Shelf other) {
            for (int i = 0; i < PLACES; i++) {
                if (!other.isEmptyAt(i) && !isOfKind(other.kinds[i], kind)) {
                    return i;
                }
                numbers[i] = other.numbers[i];
                kinds[i] = other.kinds[i];
            }
            return PLACES;
        }
    }

    /**
     * A row of numbers of one sort. Doubles hold them all, since each int and each
     * float is a double, too; put() makes a number one of the row's sort.
     */
    private static final class Sheet {
        int sort = NO_SORT;
        int length;
        final double[] row = new double[MOST_NUMBERS];

        void become(int newSort, int n) {
            sort = newSort;
            length = n;
            for (int i = 0; i < MOST_NUMBERS; i++) {
                row[i] = 0.0;
            }
        }

        boolean isMissing() {
            return sort == NO_SORT;
        }

        boolean has(int i) {
            return i >= 0 && i < length;
        }

        boolean hasRun(int i, int n) {
            // A difference, since i + n could be beyond all ints.
            return i >= 0 && n >= 0 && i <= length && n <= length - i;
        }

        void put(int i, double d) {
            if (sort == WHOLE) {
                row[i] = (int) d;
            } else if (sort == FLOATS) {
                row[i] = (float) d;
            } else {
                row[i] = d;
            }
        }

        /** v eighths, as the row's sort has them; of ints v itself. */
        double eighths(int v) {
            if (sort == WHOLE) {
                return v;
            }
            return sort == FLOATS ? v / 8f : v / 8.0;
        }

        long bitsAt(int i) {
            if (sort == WHOLE) {
                return (long) row[i];
            }
            return sort == FLOATS ? Numbers.floatBits((float) row[i]) : Numbers.doubleBits(row[i]);
        }
    }

    /** What the language's rules leave out for floats and doubles: bits and rests. */
    private static final class Numbers {
        private static final int FLOAT_WIDTH = 23;
        private static final int FLOAT_BIAS = 127;
        private static final int DOUBLE_WIDTH = 52;
        private static final int DOUBLE_BIAS = 1023;

        static int floatBits(float f) {
            int bits = (int) sizeBits(size(f), FLOAT_WIDTH, FLOAT_BIAS);
            return isMinus(f) ? bits | Integer.MIN_VALUE : bits;
        }

        static long doubleBits(double d) {
            long bits = sizeBits(size(d), DOUBLE_WIDTH, DOUBLE_BIAS);
            return isMinus(d) ? bits | Long.MIN_VALUE : bits;
        }

        static double size(double d) {
            return d < 0.0 ? -d : d;
        }

        /** Also of -0.0, which no comparison tells from 0.0, but a division does. */
        private static boolean isMinus(double d) {
            return d < 0.0 || d == 0.0 && 1.0 / d < 0.0;
        }

        /**
         * The bits of a number that is no less than 0.0 and not endless, for a sort
         * with so many bits behind the exponent. Halving and doubling lose nothing.
         */
        private static long sizeBits(double d, int width, int bias) {
            if (d == 0.0) {
                return 0L;
            }
            double part = d;
            long exponent = bias;
            while (part >= 2.0 && exponent < 2 * bias) {
                part *= 0.5;
                exponent++;
            }
            while (part < 1.0 && exponent > 1) {
                part *= 2.0;
                exponent--;
            }
            return (exponent << width) + (long) ((part - 1.0) * (1L << width));
        }

        /**
         * The rest of a by b as Java's % gives it, for b above 0.0: the greatest doubled
         * b goes off first. Nothing is rounded: what is left is below twice the step.
         */
        static double rest(double a, double b) {
            double left = size(a);
            if (left < b) {
                return a;
            }
            double step = b;
            int doubled = 0;
            while (step <= left * 0.5 && doubled < DOUBLE_BIAS) {
                step *= 2.0;
                doubled++;
            }
            for (int i = doubled; i >= 0; i--) {
                if (left >= step) {
                    left -= step;
                }
                step *= 0.5;
            }
            return a < 0.0 ? -left : left;
        }
    }
}
