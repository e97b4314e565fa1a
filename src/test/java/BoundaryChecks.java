import java.util.ArrayList;
import java.util.Arrays;
import java.util.IdentityHashMap;
import java.util.List;
import java.util.Map;

/**
 * The document's boundary cases, promise by promise: each finding just outside what is
 * allowed and the answer at the last value that is allowed; the order of findings; the
 * empty and the full case; wrap-arounds. A call that is due to answer a finding is asked
 * of an object of its own, and all that can be told of it is then compared with what is
 * told of a twin that was not asked. No object is used for more than 512 calls.
 */
public final class BoundaryChecks {
    private static final int BEYOND = -1000001;
    private static final int FULL = -1000002;
    private static final int KIND = -1000003;
    private static final int NONE = -1000004;
    private static final int STATE = -1000005;
    private static final int MISSING = -1000006;
    private static final int SIZE = -1000007;
    private static final long LONG_LOW = -9000000000000000001L;
    private static final long LONG_BEYOND = LONG_LOW;
    private static final long LONG_NONE = LONG_LOW - 3;
    private static final long LONG_MISSING = LONG_LOW - 5;
    private static final int LEAST = Integer.MIN_VALUE;
    private static final int MOST = Integer.MAX_VALUE;
    private static final int PROMISES = 45;

    private static final int[][] FACTS = {{0, 5}, {0, 3}, {1, 20}, {1, 12}, {-32, 32}, {-1, 3}, {0, 999}};
    private static final int[] TOLD = {0, 1, 2, 10, 11, 12, 13, 20, 21, 22, 23, 30, 31, 32, 33};
    /** Whether a thing of a kind (the row) is of another one (the column). */
    private static final boolean[][] IS_OF = {
        {true, false, false, false, false, false},
        {true, true, false, false, false, false},
        {true, false, true, false, false, false},
        {true, true, false, true, false, false},
        {true, false, true, false, true, false},
        {true, false, false, false, false, true}};

    private interface Making {
        PaperForms make();
    }

    private interface Call {
        long on(PaperForms x);
    }

    private interface Asking {
        long on(PaperForms x, int[] a);
    }

    private static final int[] CHECKS = new int[PROMISES + 1];
    private static int wrong = 0;

    public static void main(String[] args) {
        new1();
        add2();
        of3();
        change4();
        drop5();
        as6();
        enemy7();
        slope8();
        tellsAndChance9And10();
        aim11();
        value12();
        worth13();
        peak14();
        topic15();
        rule16();
        told17();
        against18();
        rulesTogether18To27();
        papers19();
        without20();
        best21();
        rank22();
        swap23();
        swapOrder23();
        forms24And25();
        use26();
        uses27();
        loose28();
        seed29();
        shelf30();
        lay31();
        stands32();
        moves33();
        sheet34();
        writeAndItem35And36();
        copy37();
        copyOrder37();
        casts38();
        table39();
        rests40();
        sum41();
        imageAndBack42And43();
        count44();
        status45();
        report();
    }

    private static void report() {
        int all = 0;
        for (int promise = 1; promise <= PROMISES; promise++) {
            all += CHECKS[promise];
            if (CHECKS[promise] == 0) {
                wrong++;
                System.out.println("promise " + promise + " has no boundary case here");
            }
        }
        System.out.println(all + " answers asked for at the boundaries, " + wrong + " of them not as due");
        if (wrong != 0) {
            System.exit(1);
        }
    }

    // ---- how a call is asked

    private static void due(int promise, String what, long got, long want) {
        CHECKS[promise]++;
        if (got != want) {
            wrong++;
            System.out.println("promise " + promise + ": " + what + " answered " + got + ", due is " + want);
        }
    }

    /** A call that answers what is due, which is no finding, and counts none. */
    private static PaperForms answers(int promise, String what, Making state, Call call, long want) {
        PaperForms x = state.make();
        answers(promise, what, x, call, want);
        return x;
    }

    private static void answers(int promise, String what, PaperForms x, Call call, long want) {
        int before = x.status(-1);
        due(promise, what, call.on(x), want);
        due(promise, what + ": findings", x.status(-1) - before, 0);
    }

    /** A call that answers a finding, counts it, and changes nothing else. */
    private static void refused(int promise, String what, Making state, Call call, long finding) {
        PaperForms x = state.make();
        int[] before = statuses(x);
        due(promise, what, call.on(x), finding);
        int k = (int) (finding > BEYOND - 8 ? BEYOND - finding : LONG_LOW - finding);
        int[] after = statuses(x);
        for (int which = -1; which < 8; which++) {
            int more = which == -1 || which == k ? 1 : 0;
            due(promise, what + ": status(" + which + ")", after[which + 1] - before[which + 1], more);
        }
        List<Long> untouched = UNTOUCHED.computeIfAbsent(state, s -> allThatIsTold(s.make()));
        due(promise, what + ": the first thing that it changed", firstUnlike(allThatIsTold(x), untouched), -1);
    }

    private static final Map<Making, List<Long>> UNTOUCHED = new IdentityHashMap<>();

    private static int firstUnlike(List<Long> some, List<Long> others) {
        for (int i = 0; i < some.size() && i < others.size(); i++) {
            if (!some.get(i).equals(others.get(i))) {
                return i;
            }
        }
        return some.size() == others.size() ? -1 : Math.min(some.size(), others.size());
    }

    private static int[] statuses(PaperForms x) {
        int[] all = new int[9];
        for (int which = -1; which < 8; which++) {
            all[which + 1] = x.status(which);
        }
        return all;
    }

    /** Each argument in turn below, above, far below and far above its range; then all. */
    private static void outside(int promise, String name, Making state, int[] good, int[][] ranges,
            Asking call, long beyond) {
        for (int i = 0; i < good.length; i++) {
            for (int v : new int[] {ranges[i][0] - 1, ranges[i][1] + 1, LEAST, MOST}) {
                int[] a = good.clone();
                a[i] = v;
                refused(promise, name + Arrays.toString(a), state, x -> call.on(x, a), beyond);
            }
        }
        for (int side = 0; side < 2; side++) {
            int[] a = new int[good.length];
            for (int i = 0; i < a.length; i++) {
                a[i] = side == 0 ? ranges[i][0] - 1 : ranges[i][1] + 1;
            }
            refused(promise, name + Arrays.toString(a), state, x -> call.on(x, a), beyond);
        }
    }

    /**
     * All that an object tells but status(), and, at the end, what tells of the sorts of
     * sheets, the kinds of shelves and what is kept, which asking changes.
     */
    private static List<Long> allThatIsTold(PaperForms x) {
        List<Long> all = new ArrayList<>();
        tellOfBank(x, all);
        all.add((long) x.count(5));
        for (int place = 0; place < 24; place++) {
            int number = x.stands(place / 6, place % 6, 0);
            all.add((long) number);
            if (number >= 0) {
                all.add((long) x.stands(place / 6, place % 6, 1));
            }
        }
        for (int s = 0; s < 4; s++) {
            tellOfSheet(x, s, all);
        }
        tellOfShelfKinds(x, all);
        all.add((long) x.back());
        tellOfBank(x, all);
        return all;
    }

    private static void tellOfBank(PaperForms x, List<Long> all) {
        for (int what = 0; what < 5; what++) {
            all.add((long) x.count(what));
        }
        for (int what : TOLD) {
            all.add((long) x.told(what));
        }
        int items = x.count(0);
        for (int item = 0; item < items; item++) {
            for (int what = 0; what < 8; what++) {
                all.add((long) x.of(item, what));
            }
        }
    }

    private static void tellOfSheet(PaperForms x, int s, List<Long> all) {
        long number = 0;
        for (int i = 0; i <= 40 && number != LONG_BEYOND && number != LONG_MISSING; i++) {
            number = x.item(s, i);
            all.add(number);
        }
        x.write(s, 0, 3);
        all.add(x.item(s, 0));
    }

    private static void tellOfShelfKinds(PaperForms x, List<Long> all) {
        if (x.count(0) == 0) {
            x.add(0, 0, 1, 1, 0, -1);
        }
        for (int kind = 0; kind < 6; kind++) {
            x.change(0, 0, kind);
            for (int shelf = 0; shelf < 4; shelf++) {
                all.add((long) x.lay(shelf, 0, 0));
            }
        }
    }

    // ---- objects that are asked

    private static final Making EMPTY = PaperForms::new;
    private static final Making RICH = BoundaryChecks::rich;
    private static final Making ONE = () -> alike(1);
    private static final Making THREE = () -> alike(3);
    private static final Making TWELVE = () -> alike(12);
    private static final Making GRADED = BoundaryChecks::graded;
    private static final Making SHEETS = BoundaryChecks::sheets;

    /** n items that are alike: kind 0, topic 0, a minute, slope 1, level 0, no text. */
    private static PaperForms alike(int n) {
        PaperForms x = new PaperForms();
        for (int i = 0; i < n; i++) {
            x.add(0, 0, 1, 4, 0, -1);
        }
        return x;
    }

    /** Six essays that tell 1/16 to 6/16 at the one aim that has a weight. */
    private static PaperForms graded() {
        PaperForms x = new PaperForms();
        for (int i = 0; i < 6; i++) {
            x.add(5, 0, i + 1, 4, 0, -1);
        }
        x.aim(0, 0, 5);
        return x;
    }

    /** Twelve items, nothing as at first, and what is kept unlike what is there. */
    private static PaperForms rich() {
        PaperForms x = new PaperForms();
        for (int i = 0; i < 11; i++) {
            x.add(i % 6, i % 4, i + 1, i + 1, 3 * i - 16, -1);
        }
        x.enemy(2, 3, true);
        x.aim(1, -7, 3);
        x.topic(2, 0, 4);
        x.rule(2, 500);
        x.seed(9);
        x.change(4, 6, 77);
        x.image();
        x.add(5, 3, 12, 12, 32, 2);
        x.change(10, 5, 2);
        x.enemy(0, 1, true);
        x.enemy(9, 11, true);
        x.change(3, 6, 998);
        x.aim(0, -64, 9);
        x.aim(2, 64, 1);
        x.aim(3, 0, 5);
        x.topic(0, 0, 5);
        x.topic(3, 0, 2);
        x.rule(1, 30);
        x.rule(2, 999);
        x.seed(-77);
        for (int place = 0; place < 6; place++) {
            x.lay(0, place, place + 6);
        }
        x.shelf(1, 1);
        x.lay(1, 0, 1);
        x.lay(1, 5, 3);
        x.shelf(2, 5);
        x.sheet(0, 0, 40);
        x.write(0, 0, LEAST);
        x.write(0, 1, -7);
        x.write(0, 39, MOST);
        x.sheet(1, 1, 5);
        x.table(1, 11, -64, 32);
        x.sheet(2, 2, 0);
        return x;
    }

    /** Sheets of 6 ints, of 4 ints, of 6 doubles, and a missing one. */
    private static PaperForms sheets() {
        PaperForms x = new PaperForms();
        x.add(0, 0, 1, 1, 0, -1);
        x.sheet(0, 0, 6);
        x.sheet(1, 0, 4);
        x.sheet(2, 2, 6);
        for (int i = 0; i < 6; i++) {
            x.write(0, i, i + 1);
            x.write(1, i, 10 * i + 10);
            x.write(2, i, 100 * i + 100);
        }
        return x;
    }

    private static long bits(double d) {
        return Double.doubleToLongBits(d);
    }

    private static double number(long bits) {
        return Double.longBitsToDouble(bits);
    }

    /** TELLS as the document says it, with Java's own rest. */
    private static double tells(int kind, int minutes, int slope, int level, int v) {
        float s = slope / 4f;
        float x = s * (v / 8f - level / 8f);
        double p = chance(slope, level, v);
        double item = (double) s * (double) s * p * (1.0 - p);
        switch (kind) {
            case 0: return item;
            case 1: return item * 1.25;
            case 2: return item * p;
            case 3: return item * 1.25 + minutes / 64.0;
            case 4: return (float) (item * p) * 0.3f;
            default: return minutes / 16.0 + Math.abs((double) x) % 0.75 / 4.0;
        }
    }

    private static double chance(int slope, int level, int v) {
        float x = slope / 4f * (v / 8f - level / 8f);
        return 0.5 + 0.5 * x / (1.0 + Math.abs(x));
    }

    private static int choose(int n, int k) {
        int all = 1;
        for (int i = 0; i < k; i++) {
            all = all * (n - i) / (i + 1);
        }
        return all;
    }

    // ---- promise 1: all as at first; no ITEMS

    private static void new1() {
        PaperForms x = new PaperForms();
        for (int which = -1; which < 8; which++) {
            due(1, "status(" + which + ")", x.status(which), 0);
        }
        int[] told = {2, 60, 999, 6, 6, 6, 6, 0, 0, 0, 0, 0, 0, 0, 0};
        for (int i = 0; i < TOLD.length; i++) {
            due(1, "told(" + TOLD[i] + ")", x.told(TOLD[i]), told[i]);
        }
        int[] counts = {0, 0, 0, 0, 1, 0};
        for (int what = 0; what < 6; what++) {
            due(1, "count(" + what + ")", x.count(what), counts[what]);
        }
        for (int shelf = 0; shelf < 4; shelf++) {
            for (int other = 0; other < 4; other++) {
                due(1, "moves of nothing", x.moves(shelf, other), 6);
            }
        }
        due(1, "no finding so far", x.status(-1), 0);
        for (int shelf = 0; shelf < 4; shelf++) {
            for (int place = 0; place < 6; place++) {
                due(1, "nothing stands there", x.stands(shelf, place, 0), MISSING);
                due(1, "nothing stands there", x.stands(shelf, place, 1), MISSING);
            }
        }
        for (int s = 0; s < 4; s++) {
            due(1, "a sheet is missing", x.item(s, 0), LONG_MISSING);
        }
        for (int kind = 0; kind < 6; kind++) {
            x = new PaperForms();
            x.add(kind, 0, 1, 1, 0, -1);
            for (int shelf = 0; shelf < 4; shelf++) {
                due(1, "a shelf is for all kinds", x.lay(shelf, 0, 0), -1);
            }
        }
        refused(1, "nothing is kept", EMPTY, y -> y.back(), NONE);
    }

    // ---- promises 2 to 7: items

    private static void add2() {
        int[] good = {2, 1, 10, 6, 0, 1};
        Asking add = (x, a) -> x.add(a[0], a[1], a[2], a[3], a[4], a[5]);
        Making eleven = () -> alike(11);
        outside(2, "add", EMPTY, good, FACTS, add, BEYOND);
        outside(2, "add as the last", eleven, good, FACTS, add, BEYOND);
        outside(2, "add when full: BEYOND ahead of FULL", RICH, good, FACTS, add, BEYOND);
        refused(2, "a 13th", RICH, x -> add.on(x, good), FULL);
        refused(2, "a 13th", TWELVE, x -> x.add(0, 0, 1, 1, -32, -1), FULL);
        refused(2, "a 13th", TWELVE, x -> x.add(5, 3, 20, 12, 32, 3), FULL);
        for (int what = 0; what < 6; what++) {
            for (int v : FACTS[what]) {
                int[] a = good.clone();
                a[what] = v;
                PaperForms x = answers(2, "add at an edge", EMPTY, y -> add.on(y, a), 0);
                for (int i = 0; i < 6; i++) {
                    due(2, "what was added", x.of(0, i), a[i]);
                }
                due(2, "USED", x.of(0, 6), 0);
                due(2, "ENEMIES", x.of(0, 7), 0);
            }
        }
        PaperForms x = answers(2, "the 12th", eleven, y -> add.on(y, good), 11);
        due(2, "it is full", add.on(x, good), FULL);
        x.drop();
        answers(2, "there is room again", x, y -> add.on(y, good), 11);
        x.image();
        x.drop();
        x.back();
        due(2, "twelve were kept", add.on(x, good), FULL);
    }

    private static void of3() {
        Asking of = (x, a) -> x.of(a[0], a[1]);
        outside(3, "of", RICH, new int[] {5, 3}, new int[][] {{0, 11}, {0, 7}}, of, BEYOND);
        outside(3, "of the only one", ONE, new int[] {0, 0}, new int[][] {{0, 0}, {0, 7}}, of, BEYOND);
        outside(3, "of none", EMPTY, new int[] {0, 0}, new int[][] {{0, -1}, {0, 7}}, of, BEYOND);
        for (int what = 0; what < 8; what++) {
            int w = what;
            refused(3, "of(0) of no ITEMS", EMPTY, x -> x.of(0, w), BEYOND);
            refused(3, "of(12) of twelve", RICH, x -> x.of(12, w), BEYOND);
        }
        int[] first = {0, 0, 1, 1, -16, -1, 0, 2};
        int[] last = {5, 3, 12, 12, 32, 2, 0, 512};
        for (int what = 0; what < 8; what++) {
            int w = what;
            answers(3, "of(0, " + what + ")", RICH, x -> x.of(0, w), first[what]);
            answers(3, "of(11, " + what + ")", RICH, x -> x.of(11, w), last[what]);
        }
        PaperForms x = rich();
        x.drop();
        due(3, "it is gone", x.of(11, 0), BEYOND);
        answers(3, "now the last", x, y -> y.of(10, 2), 11);
    }

    private static void change4() {
        Asking change = (x, a) -> x.change(a[0], a[1], a[2]);
        for (int what = 0; what < 7; what++) {
            int[] good = {5, what, FACTS[what][1]};
            int[][] ranges = {{0, 11}, {0, 6}, FACTS[what]};
            outside(4, "change", RICH, good, ranges, change, BEYOND);
            int w = what;
            refused(4, "change of no ITEMS", EMPTY, x -> x.change(0, w, FACTS[w][0]), BEYOND);
            for (int item : new int[] {0, 11}) {
                for (int v : FACTS[what]) {
                    changeAtEdge(item, what, v);
                }
            }
        }
        for (int v : new int[] {0, 1, 2, 4095}) {
            refused(4, "ENEMIES don't become " + v, RICH, x -> x.change(0, 7, v), BEYOND);
        }
        // Each v is allowed, but of something else.
        refused(4, "TOPIC 4", RICH, x -> x.change(0, 1, 4), BEYOND);
        refused(4, "KIND -1", RICH, x -> x.change(0, 0, -1), BEYOND);
        refused(4, "USED -1", RICH, x -> x.change(0, 6, -1), BEYOND);
        refused(4, "SLOPE 20", RICH, x -> x.change(0, 3, 20), BEYOND);
        refused(4, "LEVEL 999", RICH, x -> x.change(0, 4, 999), BEYOND);
    }

    private static void changeAtEdge(int item, int what, int v) {
        List<Long> before = new ArrayList<>();
        tellOfBank(rich(), before);
        PaperForms x = rich();
        int was = x.of(item, what);
        answers(4, "change to an edge", x, y -> y.change(item, what, v), was);
        answers(4, "change to the same", x, y -> y.change(item, what, v), v);
        due(4, "what it became", x.of(item, what), v);
        x.change(item, what, was);
        List<Long> after = new ArrayList<>();
        tellOfBank(x, after);
        due(4, "nothing else changed", firstUnlike(after, before), -1);
    }

    private static void drop5() {
        refused(5, "drop of nothing", EMPTY, x -> x.drop(), NONE);
        Making dropped = () -> {
            PaperForms x = alike(1);
            x.drop();
            return x;
        };
        refused(5, "drop of nothing any more", dropped, x -> x.drop(), NONE);
        PaperForms x = answers(5, "drop of the only one", ONE, y -> y.drop(), 0);
        due(5, "no ITEM is left", x.of(0, 0), BEYOND);
        due(5, "no ITEM is left", x.value(1), LONG_BEYOND);
        answers(5, "a set of none", x, y -> y.value(0), 0);
        x = alike(12);
        allEnemies(x, 12);
        for (int left = 11; left >= 0; left--) {
            answers(5, "drop", x, y -> y.drop(), x.count(0) - 1);
            due(5, "ITEMS left", x.count(0), left);
            due(5, "twos of ENEMIES left", x.count(1), left * (left - 1) / 2);
            for (int i = 0; i < left; i++) {
                due(5, "ENEMIES left", x.of(i, 7), (1 << left) - 1 - (1 << i));
            }
        }
        due(5, "drop of nothing", x.drop(), NONE);
        x = rich();
        x.drop();
        due(5, "what stands on a shelf stays", x.stands(0, 5, 0), 11);
        due(5, "what is kept stays", x.back(), 11);
        x = rich();
        x.change(11, 6, 999);
        x.drop();
        x.add(1, 1, 1, 1, 1, 1);
        due(5, "a new one in its place is not used", x.of(11, 6), 0);
        due(5, "a new one in its place has no ENEMIES", x.of(11, 7), 0);
        due(5, "nor is it one", x.of(9, 7), 0);
    }

    private static void allEnemies(PaperForms x, int n) {
        for (int i = 0; i < n; i++) {
            for (int j = 0; j < i; j++) {
                x.enemy(i, j, true);
            }
        }
    }

    private static void as6() {
        Asking as = (x, a) -> x.as(a[0], a[1]);
        outside(6, "as", RICH, new int[] {5, 0}, new int[][] {{0, 11}, {0, 5}}, as, BEYOND);
        outside(6, "as, which would be KIND", RICH, new int[] {0, 5}, new int[][] {{0, 11}, {0, 5}}, as, BEYOND);
        refused(6, "as of no ITEMS", EMPTY, x -> x.as(0, 0), BEYOND);
        for (int item = 0; item < 12; item++) {
            for (int kind = 0; kind < 6; kind++) {
                int i = item;
                int k = kind;
                String what = "as(" + item + ", " + kind + ")";
                if (IS_OF[item % 6][kind]) {
                    answers(6, what, RICH, x -> x.as(i, k), item + 1);
                } else {
                    refused(6, what, RICH, x -> x.as(i, k), KIND);
                }
            }
        }
    }

    private static void enemy7() {
        for (boolean are : new boolean[] {true, false}) {
            Asking enemy = (x, a) -> x.enemy(a[0], a[1], are);
            outside(7, "enemy", RICH, new int[] {4, 5}, new int[][] {{0, 11}, {0, 11}}, enemy, BEYOND);
            for (int i : new int[] {0, 9, 11, 12, -1}) {
                refused(7, "one and the same, " + i, RICH, x -> x.enemy(i, i, are), BEYOND);
            }
            refused(7, "one and the same of none", EMPTY, x -> x.enemy(0, 0, are), BEYOND);
            refused(7, "two of none", EMPTY, x -> x.enemy(0, 1, are), BEYOND);
            refused(7, "two of one", ONE, x -> x.enemy(0, 1, are), BEYOND);
            refused(7, "two of one", ONE, x -> x.enemy(1, 0, are), BEYOND);
            answers(7, "never were", TWELVE, x -> x.enemy(0, 11, are), 0);
            answers(7, "are already", RICH, x -> x.enemy(11, 9, are), 1);
        }
        PaperForms x = alike(12);
        allEnemies(x, 12);
        due(7, "all twos", x.count(1), 66);
        for (int i = 0; i < 12; i++) {
            due(7, "all others", x.of(i, 7), 4095 - (1 << i));
        }
        answers(7, "first and last, no more", x, y -> y.enemy(0, 11, false), 1);
        due(7, "ENEMIES of the first", x.of(0, 7), 2046);
        due(7, "ENEMIES of the last", x.of(11, 7), 2046);
        due(7, "all twos but one", x.count(1), 65);
        answers(7, "first and last, no more", x, y -> y.enemy(11, 0, false), 0);
        due(7, "ENEMIES of the first", x.of(0, 7), 2046);
        due(7, "ENEMIES of the last", x.of(11, 7), 2046);
        due(7, "ENEMIES of the second", x.of(1, 7), 4093);
        answers(7, "again", x, y -> y.enemy(11, 0, true), 0);
        answers(7, "again", x, y -> y.enemy(0, 11, true), 1);
        due(7, "all twos", x.count(1), 66);
        for (int i = 1; i < 12; i++) {
            int last = i;
            answers(7, "two after two, no more", x, y -> y.enemy(last, last - 1, false), 1);
            due(7, "ENEMIES of " + i, x.of(i, 7), 4095 - (3 << i - 1));
            due(7, "twos left", x.count(1), 66 - i);
        }
    }

    // ---- promises 8 to 14: what is told at an ability

    private static void slope8() {
        outside(8, "slope", RICH, new int[] {5}, new int[][] {{0, 11}}, (x, a) -> x.slope(a[0]), BEYOND);
        refused(8, "slope of none", EMPTY, x -> x.slope(0), BEYOND);
        refused(8, "slope of a second", ONE, x -> x.slope(1), BEYOND);
        answers(8, "the least", RICH, x -> x.slope(0), Float.floatToIntBits(0.25f));
        answers(8, "the most", RICH, x -> x.slope(11), Float.floatToIntBits(3f));
    }

    private static void tellsAndChance9And10() {
        int[][] ranges = {{0, 11}, {-64, 64}};
        outside(9, "tells", RICH, new int[] {5, 0}, ranges, (x, a) -> x.tells(a[0], a[1]), LONG_BEYOND);
        outside(10, "chance", RICH, new int[] {5, 0}, ranges, (x, a) -> x.chance(a[0], a[1]), LONG_BEYOND);
        for (int v : new int[] {-64, 0, 64}) {
            refused(9, "tells of none", EMPTY, x -> x.tells(0, v), LONG_BEYOND);
            refused(10, "chance of none", EMPTY, x -> x.chance(0, v), LONG_BEYOND);
        }
        for (int kind = 0; kind < 6; kind++) {
            for (int minutes : new int[] {1, 20}) {
                for (int slope : new int[] {1, 12}) {
                    tellsAtLevels(kind, minutes, slope);
                }
            }
        }
        // x is 0.75, -0.75, 1.5, which leave no rest, and just next to it.
        PaperForms x = new PaperForms();
        x.add(5, 0, 16, 4, 0, -1);
        for (int v : new int[] {6, -6, 12, -12, 48, -48, 0}) {
            answers(9, "no rest", x, y -> y.tells(0, v), bits(1.0));
        }
        answers(9, "the most rest", x, y -> y.tells(0, 5), bits(1.0 + 0.625 / 4.0));
        answers(9, "the most rest", x, y -> y.tells(0, -5), bits(1.0 + 0.625 / 4.0));
        answers(9, "a little rest", x, y -> y.tells(0, -7), bits(1.0 + 0.125 / 4.0));
    }

    private static void tellsAtLevels(int kind, int minutes, int slope) {
        for (int level : new int[] {-32, 0, 32}) {
            PaperForms x = new PaperForms();
            x.add(kind, 0, minutes, slope, level, -1);
            for (int v : new int[] {-64, -63, -33, -32, -31, 0, 31, 32, 33, 63, 64}) {
                answers(9, "tells", x, y -> y.tells(0, v), bits(tells(kind, minutes, slope, level, v)));
                answers(10, "chance", x, y -> y.chance(0, v), bits(chance(slope, level, v)));
            }
            answers(10, "chance at its level", x, y -> y.chance(0, level), bits(0.5));
        }
    }

    private static void aim11() {
        Asking aim = (x, a) -> x.aim(a[0], a[1], a[2]);
        int[][] ranges = {{0, 3}, {-64, 64}, {0, 9}};
        outside(11, "aim", RICH, new int[] {1, 0, 5}, ranges, aim, BEYOND);
        outside(11, "aim", EMPTY, new int[] {0, 0, 0}, ranges, aim, BEYOND);
        for (int k = 0; k < 4; k++) {
            for (int v : ranges[1]) {
                for (int weight : ranges[2]) {
                    int[] a = {k, v, weight};
                    PaperForms x = answers(11, "aim at an edge", RICH, y -> aim.on(y, a), rich().told(30 + k));
                    for (int other = 0; other < 4; other++) {
                        PaperForms y = rich();
                        due(11, "ABILITY", x.told(20 + other), other == k ? v : y.told(20 + other));
                        due(11, "WEIGHT", x.told(30 + other), other == k ? weight : y.told(30 + other));
                    }
                    answers(11, "the WEIGHT that it had", x, y -> y.aim(a[0], 1, 1), weight);
                }
            }
        }
    }

    private static void value12() {
        Asking value = (x, a) -> x.value(a[0]);
        sets(12, "value", value, LONG_BEYOND);
        answers(12, "of nothing, no ITEMS", EMPTY, x -> x.value(0), 0);
        answers(12, "of nothing", RICH, x -> x.value(0), 0);
        answers(12, "of all, without weights", TWELVE, x -> x.value(4095), 0);
        answers(12, "of all", RICH, x -> x.value(4095), bits(richValue(4095)));
        answers(12, "of the last", RICH, x -> x.value(2048), bits(richValue(2048)));
        answers(12, "of all but the last", RICH, x -> x.value(2047), bits(richValue(2047)));
        PaperForms x = rich();
        x.drop();
        due(12, "the last is gone", x.value(2048), LONG_BEYOND);
        answers(12, "all that are left", x, y -> y.value(2047), bits(richValue(2047)));
        greatest(x = new PaperForms());
        double most = 0.0;
        for (int i = 0; i < 48; i++) {
            most += 3.125 * (9 * 0.1f);
        }
        answers(12, "the greatest", x, y -> y.value(4095), bits(most));
        double greatest = most;
        answers(13, "the greatest", x, y -> y.worth(4095), (int) (greatest * 1000.0));
    }

    /** Sets that have what is no ITEM: of no ITEMS, of one, of six, of twelve. */
    private static void sets(int promise, String name, Asking call, long beyond) {
        int[] zero = {0};
        outside(promise, name, EMPTY, zero, new int[][] {{0, 0}}, call, beyond);
        outside(promise, name, ONE, zero, new int[][] {{0, 1}}, call, beyond);
        outside(promise, name, GRADED, zero, new int[][] {{0, 63}}, call, beyond);
        outside(promise, name, RICH, zero, new int[][] {{0, 4095}}, call, beyond);
        for (int set : new int[] {1 << 12 | 3, 1 << 16, 1 << 30, 1 << 31 | 3, -4096}) {
            refused(promise, name + " " + set, RICH, x -> call.on(x, new int[] {set}), beyond);
        }
        refused(promise, name + " of the seventh of six", GRADED, x -> call.on(x, new int[] {64 | 3}), beyond);
    }

    private static double richValue(int set) {
        PaperForms x = rich();
        double value = 0.0;
        for (int k = 0; k < 4; k++) {
            for (int i = 0; i < 12; i++) {
                if ((set & 1 << i) != 0) {
                    double tells = tells(x.of(i, 0), x.of(i, 2), x.of(i, 3), x.of(i, 4), x.told(20 + k));
                    value += tells * (x.told(30 + k) * 0.1f);
                }
            }
        }
        return value;
    }

    private static void greatest(PaperForms x) {
        for (int i = 0; i < 12; i++) {
            x.add(3, 0, 20, 12, 0, -1);
        }
        for (int k = 0; k < 4; k++) {
            x.aim(k, 0, 9);
        }
    }

    private static void worth13() {
        sets(13, "worth", (x, a) -> x.worth(a[0]), BEYOND);
        answers(13, "of nothing, no ITEMS", EMPTY, x -> x.worth(0), 0);
        answers(13, "of nothing", RICH, x -> x.worth(0), 0);
        answers(13, "of all, without weights", TWELVE, x -> x.worth(4095), 0);
        answers(13, "of all", RICH, x -> x.worth(4095), (int) (richValue(4095) * 1000.0));
        PaperForms x = new PaperForms();
        x.add(5, 0, 3, 4, 0, -1);
        x.aim(3, 0, 9);
        answers(13, "168.75 is cut", x, y -> y.worth(1), 168);
        x.aim(3, 0, 1);
        answers(13, "18.75 is cut", x, y -> y.worth(1), 18);
    }

    private static void peak14() {
        Asking peak = (x, a) -> x.peak(a[0], a[1], a[2]);
        int[][] ranges = {{0, 4095}, {-64, 64}, {-64, 64}};
        outside(14, "peak", RICH, new int[] {3, 0, 0}, ranges, peak, BEYOND);
        sets(14, "peak", (x, a) -> x.peak(a[0], -64, 64), BEYOND);
        refused(14, "from below, to allowed", RICH, x -> x.peak(3, -65, 64), BEYOND);
        refused(14, "to above, from allowed", RICH, x -> x.peak(3, -64, 65), BEYOND);
        for (int from : new int[] {-63, 0, 1, 64}) {
            refused(14, "from just above to", RICH, x -> x.peak(3, from, from - 1), BEYOND);
        }
        refused(14, "from above to, no ITEMS", EMPTY, x -> x.peak(0, 1, 0), BEYOND);
        refused(14, "the wrong way round", RICH, x -> x.peak(3, 64, -64), BEYOND);
        for (int v : new int[] {-64, 0, 64}) {
            answers(14, "one ability", RICH, x -> x.peak(4095, v, v), v);
            answers(14, "of nothing", EMPTY, x -> x.peak(0, v, v), v);
            answers(14, "of nothing, the least", EMPTY, x -> x.peak(0, v, 64), v);
            answers(14, "of nothing, the least", RICH, x -> x.peak(0, -64, v), -64);
        }
        PaperForms x = new PaperForms();
        x.add(0, 0, 1, 12, 32, -1);
        x.add(0, 0, 1, 12, -32, -1);
        answers(14, "it rises to the last", x, y -> y.peak(1, -64, 31), 31);
        answers(14, "it falls from the first", x, y -> y.peak(1, 33, 64), 33);
        answers(14, "the top is the last", x, y -> y.peak(1, 0, 32), 32);
        answers(14, "the top is the last of two", x, y -> y.peak(1, 31, 32), 32);
        answers(14, "the top is the second", x, y -> y.peak(1, 31, 64), 32);
        answers(14, "the top is the first of two", x, y -> y.peak(1, 32, 33), 32);
        answers(14, "the top is the first", x, y -> y.peak(1, 32, 64), 32);
        answers(14, "of like ones the least", x, y -> y.peak(3, -64, 64), -32);
        answers(14, "the lesser top is out", x, y -> y.peak(3, -31, 64), 32);
        double low = tells(0, 1, 12, 32, -31) + tells(0, 1, 12, -32, -31);
        double high = tells(0, 1, 12, 32, 31) + tells(0, 1, 12, -32, 31);
        answers(14, "both tops are out", x, y -> y.peak(3, -31, 31), high > low ? 31 : -31);
    }

    // ---- promises 15 to 17: the blueprint

    private static void topic15() {
        Asking topic = (x, a) -> x.topic(a[0], a[1], a[2]);
        int[][] ranges = {{0, 3}, {0, 6}, {0, 6}};
        outside(15, "topic", RICH, new int[] {1, 3, 3}, ranges, topic, BEYOND);
        outside(15, "topic", EMPTY, new int[] {0, 0, 6}, ranges, topic, BEYOND);
        for (int least = 1; least <= 6; least++) {
            int l = least;
            refused(15, "LEAST just above MOST", RICH, x -> x.topic(0, l, l - 1), BEYOND);
            refused(15, "LEAST above MOST", RICH, x -> x.topic(3, l, 0), BEYOND);
        }
        refused(15, "MOST -1", RICH, x -> x.topic(0, 0, -1), BEYOND);
        refused(15, "both -1", RICH, x -> x.topic(0, -1, -1), BEYOND);
        refused(15, "both 7", RICH, x -> x.topic(0, 7, 7), BEYOND);
        for (int t = 0; t < 4; t++) {
            int at = t;
            PaperForms x = answers(15, "0, 0", EMPTY, y -> y.topic(at, 0, 0), 6);
            answers(15, "6, 6", x, y -> y.topic(at, 6, 6), 0);
            answers(15, "0, 6", x, y -> y.topic(at, 0, 6), 66);
            answers(15, "3, 3", x, y -> y.topic(at, 3, 3), 6);
            for (int other = 0; other < 4; other++) {
                due(15, "told(" + (10 + other) + ")", x.told(10 + other), other == t ? 33 : 6);
            }
        }
    }

    private static void rule16() {
        int[][] ranges = {{1, 6}, {0, 240}, {0, 999}};
        int[] first = {2, 60, 999};
        for (int what = 0; what < 3; what++) {
            int[][] both = {{0, 2}, ranges[what]};
            Asking rule = (x, a) -> x.rule(a[0], a[1]);
            outside(16, "rule", RICH, new int[] {what, 5}, both, rule, BEYOND);
            outside(16, "rule", EMPTY, new int[] {what, ranges[what][1]}, both, rule, BEYOND);
            int w = what;
            PaperForms x = answers(16, "the least", EMPTY, y -> y.rule(w, ranges[w][0]), first[what]);
            due(16, "what it became", x.told(what), ranges[what][0]);
            answers(16, "the most", x, y -> y.rule(w, ranges[w][1]), ranges[what][0]);
            due(16, "what it became", x.told(what), ranges[what][1]);
            for (int other = 0; other < 3; other++) {
                due(16, "the others stay", other == what ? first[other] : x.told(other), first[other]);
            }
        }
        // Each v is allowed, but of something else.
        refused(16, "SIZE 240", RICH, x -> x.rule(0, 240), BEYOND);
        refused(16, "LONGEST 999", RICH, x -> x.rule(1, 999), BEYOND);
    }

    private static void told17() {
        int[] rich = {2, 30, 999, 5, 6, 4, 2, -64, -7, 64, 0, 9, 3, 1, 5};
        for (int i = 0; i < TOLD.length; i++) {
            int what = TOLD[i];
            answers(17, "told(" + what + ")", RICH, x -> x.told(what), rich[i]);
        }
        for (int what : new int[] {-1, 3, 9, 14, 19, 24, 29, 34, 40, LEAST, MOST}) {
            refused(17, "told(" + what + ")", RICH, x -> x.told(what), BEYOND);
            refused(17, "told(" + what + ")", EMPTY, x -> x.told(what), BEYOND);
        }
        PaperForms x = new PaperForms();
        for (int what = -20; what < 60; what++) {
            boolean isTold = Arrays.binarySearch(TOLD, what) >= 0;
            due(17, "told(" + what + ")", x.told(what) == BEYOND ? 0 : 1, isTold ? 1 : 0);
        }
    }

    // ---- promises 18 to 28: papers

    private static void against18() {
        sets(18, "against", (x, a) -> x.against(a[0]), BEYOND);
        answers(18, "nothing, no ITEMS", EMPTY, x -> x.against(0), 1);
        for (int size = 1; size <= 6; size++) {
            PaperForms x = alike(12);
            x.rule(0, size);
            for (int n = 0; n <= 12; n++) {
                int set = (1 << n) - 1;
                answers(18, n + " of SIZE " + size, x, y -> y.against(set), n == size ? 0 : 1);
                answers(18, n + " of SIZE " + size, x, y -> y.against(set << 12 - Integer.bitCount(set)),
                        n == size ? 0 : 1);
            }
        }
        for (int t = 0; t < 4; t++) {
            topicEdges(t);
            textEdges(t);
        }
        minutesEdges();
        usedEdges();
        PaperForms x = alike(12);
        x.enemy(0, 11, true);
        answers(18, "first and last are ENEMIES", x, y -> y.against(2049), 4);
        answers(18, "the first and another", x, y -> y.against(3), 0);
        answers(18, "another and the last", x, y -> y.against(3072), 0);
        x.rule(0, 3);
        answers(18, "ENEMIES and another", x, y -> y.against(2051), 4);
    }

    /** Four items, two of the topic. */
    private static void topicEdges(int t) {
        PaperForms x = alike(4);
        for (int i = 0; i < 4; i++) {
            x.change(i, 1, i < 2 ? t : (t + 1) % 4);
        }
        int[] sets = {12, 5, 3};
        for (int least = 0; least <= 3; least++) {
            for (int most = least; most <= 3; most++) {
                x.topic(t, least, most);
                for (int n = 0; n < 3; n++) {
                    int set = sets[n];
                    String what = n + " of topic " + t + " of " + least + " to " + most;
                    answers(18, what, x, y -> y.against(set), n >= least && n <= most ? 0 : 2);
                }
            }
        }
        x.topic(t, 6, 6);
        answers(18, "six of a topic of SIZE 2", x, y -> y.against(3), 2);
    }

    private static void textEdges(int t) {
        PaperForms x = alike(4);
        x.rule(0, 3);
        answers(18, "no TEXT", x, y -> y.against(7), 0);
        x.change(0, 5, t);
        answers(18, "TEXT of the first alone", x, y -> y.against(7), 5);
        answers(18, "TEXT of none of them", x, y -> y.against(14), 0);
        x.change(1, 5, (t + 1) % 4);
        answers(18, "two TEXTS", x, y -> y.against(7), 5);
        x.change(1, 5, t);
        answers(18, "TEXT of two", x, y -> y.against(7), 0);
        x.change(2, 5, t);
        answers(18, "TEXT of three", x, y -> y.against(7), 0);
        x.change(2, 5, (t + 3) % 4);
        answers(18, "TEXT of two, another of one", x, y -> y.against(7), 5);
        x.change(2, 5, -1);
        x.change(3, 5, t);
        answers(18, "TEXT of one of them, of another that isn't", x, y -> y.against(14), 0);
        x.change(1, 5, -1);
        x.change(3, 5, -1);
        answers(18, "no TEXT is no TEXT", x, y -> y.against(14), 0);
    }

    private static void minutesEdges() {
        PaperForms x = alike(2);
        x.rule(1, 0);
        answers(18, "nothing is so short", x, y -> y.against(3), 3);
        x.rule(1, 1);
        answers(18, "a minute too long", x, y -> y.against(3), 3);
        x.rule(1, 2);
        answers(18, "just as long", x, y -> y.against(3), 0);
        x = alike(6);
        for (int i = 0; i < 6; i++) {
            x.change(i, 2, 20);
        }
        x.rule(0, 6);
        x.rule(1, 119);
        answers(18, "a minute too long", x, y -> y.against(63), 3);
        x.rule(1, 120);
        answers(18, "just as long", x, y -> y.against(63), 0);
        x.rule(1, 240);
        answers(18, "the most", x, y -> y.against(63), 0);
        x.rule(0, 3);
        x.rule(1, 60);
        answers(18, "just as long, as at first", x, y -> y.against(56), 0);
    }

    private static void usedEdges() {
        PaperForms x = alike(12);
        x.rule(2, 0);
        answers(18, "USED 0 of EXPOSED 0", x, y -> y.against(3), 6);
        x.rule(2, 1);
        answers(18, "USED 0 of EXPOSED 1", x, y -> y.against(3), 0);
        x.change(11, 6, 998);
        x.rule(2, 998);
        answers(18, "USED 998 of EXPOSED 998", x, y -> y.against(2049), 6);
        answers(18, "it isn't of it", x, y -> y.against(3), 0);
        x.rule(2, 999);
        answers(18, "USED 998 of EXPOSED 999", x, y -> y.against(2049), 0);
        x.change(11, 6, 999);
        answers(18, "USED 999 of EXPOSED 999", x, y -> y.against(2049), 6);
    }

    /** Two items of which both together keep all rules but some. */
    private static PaperForms breaking(int rules) {
        PaperForms x = alike(2);
        if ((rules & 1 << 1) != 0) {
            x.rule(0, 3);
        }
        if ((rules & 1 << 2) != 0) {
            x.topic(0, 0, 0);
        }
        if ((rules & 1 << 3) != 0) {
            x.rule(1, 0);
        }
        if ((rules & 1 << 4) != 0) {
            x.enemy(0, 1, true);
        }
        if ((rules & 1 << 5) != 0) {
            x.change(0, 5, 1);
        }
        if ((rules & 1 << 6) != 0) {
            x.rule(2, 0);
        }
        return x;
    }

    /** Each choice of the six rules broken: what all that asks for papers answers. */
    private static void rulesTogether18To27() {
        for (int broken = 0; broken < 128; broken += 2) {
            int b = broken;
            Making state = () -> breaking(b);
            answers(18, "the least of " + b, state, x -> x.against(3), b == 0 ? 0 : Integer.numberOfTrailingZeros(b));
            answers(19, "papers", state, x -> x.papers(), b == 0 ? 1 : 0);
            for (int rule = 2; rule <= 6; rule++) {
                int r = rule;
                answers(20, "without " + r, state, x -> x.without(r), (b & ~(1 << r)) == 0 ? 1 : 0);
            }
            // The empty set keeps all but SIZE; each item alone keeps the peace.
            boolean single = (b & (1 << 2 | 1 << 3 | 1 << 6)) == 0;
            int singles = single ? (b & 1 << 5) == 0 ? 2 : 1 : 0;
            answers(20, "without 1", state, x -> x.without(1), 1 + singles + ((b & ~2) == 0 ? 1 : 0));
            answers(22, "rank", state, x -> x.rank(3), 0);
            answers(27, "uses", state, x -> x.uses(20), b == 0 ? 20 : 0);
            if (b == 0) {
                answers(21, "best", state, x -> x.best(), 3);
                answers(26, "use", state, x -> x.use(3), 0);
                refused(23, "swap: none, of all rules kept", state, x -> x.swap(3, 0), NONE);
            } else {
                refused(21, "best, against " + b, state, x -> x.best(), NONE);
                refused(26, "use, against " + b, state, x -> x.use(3), STATE);
                refused(23, "swap, against " + b, state, x -> x.swap(3, 0), STATE);
            }
            refused(24, "forms, against " + b, state, x -> x.forms(0), NONE);
            refused(25, "gap, against " + b, state, x -> x.gap(), LONG_NONE);
        }
    }

    /** Of no ITEMS to twelve all sets of SIZE are papers; all are alike. */
    private static void papers19() {
        for (int n = 0; n <= 12; n++) {
            for (int size = 1; size <= 6; size++) {
                PaperForms x = alike(n);
                x.rule(0, size);
                int first = (1 << size) - 1;
                answers(19, size + " of " + n, x, y -> y.papers(), choose(n, size));
                due(21, "best, " + size + " of " + n, x.best(), size <= n ? first : NONE);
                due(24, "FIRST, " + size + " of " + n, x.forms(0), 2 * size <= n ? first : NONE);
                due(24, "SECOND, " + size + " of " + n, x.forms(1), 2 * size <= n ? first << size : NONE);
                due(25, "GAP, " + size + " of " + n, x.gap(), 2 * size <= n ? 0 : LONG_NONE);
            }
            PaperForms x = alike(n);
            int upToSix = 0;
            for (int size = 0; size <= 6; size++) {
                upToSix += choose(n, size);
            }
            int sets = upToSix;
            answers(20, "but for SIZE all of six of a TOPIC or less", x, y -> y.without(1), sets);
            spread(x);
            int all = 1 << n;
            answers(20, "but for SIZE all sets of " + n, x, y -> y.without(1), all);
        }
        answers(19, "no ITEMS", EMPTY, x -> x.papers(), 0);
        PaperForms x = alike(12);
        x.rule(2, 0);
        answers(19, "no PAPER of twelve", x, y -> y.papers(), 0);
        x.rule(2, 1);
        x.change(11, 6, 1);
        answers(19, "the last is worn", x, y -> y.papers(), choose(11, 2));
        x.change(0, 6, 1);
        answers(19, "the first, too", x, y -> y.papers(), choose(10, 2));
    }

    /** Of each topic as many as of each other one, so that no set has more than six. */
    private static void spread(PaperForms x) {
        for (int i = 0; i < x.count(0); i++) {
            x.change(i, 1, i % 4);
        }
    }

    private static void without20() {
        for (int rule : new int[] {0, 7, -1, LEAST, MOST}) {
            refused(20, "without(" + rule + ")", RICH, x -> x.without(rule), BEYOND);
            refused(20, "without(" + rule + ")", EMPTY, x -> x.without(rule), BEYOND);
        }
        for (int rule = 1; rule <= 6; rule++) {
            int r = rule;
            answers(20, "no ITEMS, without " + r, EMPTY, x -> x.without(r), r == 1 ? 1 : 0);
            answers(20, "without " + r, TWELVE, x -> x.without(r), r == 1 ? 2510 : 66);
        }
        PaperForms x = alike(12);
        x.topic(0, 1, 6);
        answers(20, "nothing is too little of a topic", x, y -> y.without(1), 2509);
        x = alike(12);
        spread(x);
        x.rule(1, 11);
        answers(20, "all but the longest one", x, y -> y.without(1), 4095);
        x.rule(1, 0);
        answers(20, "only nothing is so short", x, y -> y.without(1), 1);
        answers(20, "but for LONGEST", x, y -> y.without(3), 66);
        x = alike(12);
        x.rule(2, 0);
        answers(20, "only nothing is unused", x, y -> y.without(1), 1);
        answers(20, "but for EXPOSED", x, y -> y.without(6), 66);
        x.rule(2, 999);
        allEnemies(x, 12);
        answers(20, "nothing, and each alone", x, y -> y.without(1), 13);
        answers(20, "but for ENEMIES", x, y -> y.without(4), 66);
    }

    private static void best21() {
        refused(21, "no ITEMS", EMPTY, x -> x.best(), NONE);
        refused(21, "fewer than SIZE", ONE, x -> x.best(), NONE);
        Making worn = () -> {
            PaperForms x = rich();
            x.rule(2, 0);
            return x;
        };
        refused(21, "no PAPER of twelve", worn, x -> x.best(), NONE);
        refused(24, "no PAPER of twelve", worn, x -> x.forms(0), NONE);
        refused(25, "no PAPER of twelve", worn, x -> x.gap(), LONG_NONE);
        answers(22, "no PAPER of twelve", worn, x -> x.rank(0), 0);
        answers(27, "no PAPER of twelve", worn, x -> x.uses(20), 0);
        Making single = () -> {
            PaperForms x = alike(1);
            x.rule(0, 1);
            return x;
        };
        answers(21, "just one PAPER", single, x -> x.best(), 1);
        answers(21, "of like ones the least", TWELVE, x -> x.best(), 3);
        PaperForms x = graded();
        answers(21, "the greatest", x, y -> y.best(), 48);
        x.change(3, 2, 5);
        answers(21, "of like ones the least", x, y -> y.best(), 40);
        x.aim(0, 0, 0);
        answers(21, "without weights the least", x, y -> y.best(), 3);
        x = new PaperForms();
        greatest(x);
        x.rule(0, 6);
        x.rule(1, 120);
        x.change(0, 3, 11);
        answers(21, "all but the first", x, y -> y.best(), 126);
        x.change(0, 3, 12);
        x.change(11, 0, 5);
        answers(21, "the first six", x, y -> y.best(), 63);
    }

    private static void rank22() {
        sets(22, "rank", (x, a) -> x.rank(a[0]), BEYOND);
        answers(22, "no ITEMS, no PAPER", EMPTY, x -> x.rank(0), 0);
        answers(22, "no PAPER", ONE, x -> x.rank(1), 0);
        answers(22, "all are like nothing", TWELVE, x -> x.rank(0), 0);
        answers(22, "all are like nothing", TWELVE, x -> x.rank(4095), 0);
        answers(22, "of the best", GRADED, x -> x.rank(48), 0);
        answers(22, "of the second", GRADED, x -> x.rank(40), 1);
        answers(22, "of the last", GRADED, x -> x.rank(3), 14);
        answers(22, "of nothing", GRADED, x -> x.rank(0), 15);
        answers(22, "of all", GRADED, x -> x.rank(63), 0);
        PaperForms x = new PaperForms();
        greatest(x);
        x.rule(0, 6);
        x.rule(1, 120);
        answers(22, "of nothing, of the most papers", x, y -> y.rank(0), 924);
        answers(22, "of five", x, y -> y.rank(31), 924);
        answers(22, "of six", x, y -> y.rank(63), 0);
    }

    private static void swap23() {
        Asking swap = (x, a) -> x.swap(a[0], a[1]);
        outside(23, "swap", GRADED, new int[] {3, 0}, new int[][] {{0, 63}, {0, 5}}, swap, BEYOND);
        outside(23, "swap", RICH, new int[] {17, 0}, new int[][] {{0, 4095}, {0, 11}}, swap, BEYOND);
        sets(23, "swap", (x, a) -> x.swap(a[0], 0), BEYOND);
        refused(23, "no ITEMS", EMPTY, x -> x.swap(0, 0), BEYOND);
        refused(23, "no ITEMS", EMPTY, x -> x.swap(0, -1), BEYOND);
        answers(23, "the greatest", GRADED, x -> x.swap(3, 0), 5);
        answers(23, "the greatest that isn't of it", GRADED, x -> x.swap(48, 5), 3);
        answers(23, "of like ones the least", TWELVE, x -> x.swap(3072, 11), 0);
        answers(23, "of like ones the least", TWELVE, x -> x.swap(3, 1), 2);
        Making ones = () -> {
            PaperForms x = alike(2);
            x.rule(0, 1);
            return x;
        };
        answers(23, "the only other one", ones, x -> x.swap(1, 0), 1);
        answers(23, "the only other one", ones, x -> x.swap(2, 1), 0);
        Making last = () -> {
            PaperForms x = graded();
            x.rule(2, 1);
            for (int i = 2; i < 5; i++) {
                x.change(i, 6, 1);
            }
            return x;
        };
        answers(23, "the only one that isn't worn", last, x -> x.swap(3, 0), 5);
        PaperForms x = alike(7);
        x.rule(0, 6);
        answers(23, "six of seven", x, y -> y.swap(63, 0), 6);
        answers(23, "six of seven", x, y -> y.swap(126, 6), 0);
        x = alike(12);
        x.aim(0, 0, 1);
        x.change(11, 3, 12);
        answers(23, "the last of twelve", x, y -> y.swap(3, 0), 11);
        x.change(2, 3, 12);
        answers(23, "of like ones the least", x, y -> y.swap(3, 0), 2);
        x.change(11, 3, 11);
        answers(23, "the first that isn't of it", x, y -> y.swap(3, 0), 2);
        x.change(7, 3, 6);
        answers(23, "the first that isn't of it", x, y -> y.swap(3, 1), 2);
    }

    /** BEYOND ahead of STATE ahead of KIND ahead of NONE, where more than one would do. */
    private static void swapOrder23() {
        refused(23, "no such set; not of it", GRADED, x -> x.swap(64, 5), BEYOND);
        refused(23, "no such ITEM; no PAPER", GRADED, x -> x.swap(7, 6), BEYOND);
        refused(23, "no such ITEM; no PAPER", GRADED, x -> x.swap(0, -1), BEYOND);
        refused(23, "no such set, ITEM", GRADED, x -> x.swap(-1, -1), BEYOND);
        refused(23, "no PAPER; not of it", GRADED, x -> x.swap(7, 5), STATE);
        refused(23, "nothing is no PAPER; not of it", GRADED, x -> x.swap(0, 0), STATE);
        refused(23, "no PAPER; of it", GRADED, x -> x.swap(1, 0), STATE);
        refused(23, "all are no PAPER", GRADED, x -> x.swap(63, 0), STATE);
        refused(23, "not of it; others would do", GRADED, x -> x.swap(3, 2), KIND);
        refused(23, "not of it; others would do", GRADED, x -> x.swap(3, 5), KIND);
        Making worn = () -> {
            PaperForms x = alike(3);
            x.rule(2, 1);
            x.change(2, 6, 1);
            return x;
        };
        refused(23, "not of it; there is none", worn, x -> x.swap(3, 2), KIND);
        refused(23, "there is none", worn, x -> x.swap(3, 0), NONE);
        refused(23, "there is none", worn, x -> x.swap(3, 1), NONE);
        refused(23, "no PAPER; there is none", worn, x -> x.swap(6, 1), STATE);
        Making six = () -> {
            PaperForms x = alike(6);
            x.rule(0, 6);
            return x;
        };
        refused(23, "no other ITEM", six, x -> x.swap(63, 0), NONE);
        refused(23, "no other ITEM", six, x -> x.swap(63, 5), NONE);
        refused(23, "no other ITEM; no such ITEM", six, x -> x.swap(63, 6), BEYOND);
        Making texts = () -> {
            PaperForms x = alike(12);
            x.change(0, 5, 0);
            x.change(1, 5, 0);
            return x;
        };
        refused(23, "a TEXT would stand alone", texts, x -> x.swap(3, 0), NONE);
    }

    private static void forms24And25() {
        for (int what : new int[] {-1, 2, LEAST, MOST}) {
            refused(24, "forms(" + what + ")", GRADED, x -> x.forms(what), BEYOND);
            refused(24, "forms(" + what + "), no ITEMS", EMPTY, x -> x.forms(what), BEYOND);
            refused(24, "forms(" + what + "), none such", ONE, x -> x.forms(what), BEYOND);
        }
        for (Making none : List.of(EMPTY, ONE, THREE)) {
            refused(24, "none such, FIRST", none, x -> x.forms(0), NONE);
            refused(24, "none such, SECOND", none, x -> x.forms(1), NONE);
            refused(25, "none such", none, x -> x.gap(), LONG_NONE);
        }
        Making shared = () -> {
            PaperForms x = alike(12);
            x.change(11, 1, 1);
            x.topic(1, 1, 6);
            return x;
        };
        answers(19, "all have the last ITEM", shared, x -> x.papers(), 11);
        refused(24, "all have the last ITEM", shared, x -> x.forms(0), NONE);
        refused(25, "all have the last ITEM", shared, x -> x.gap(), LONG_NONE);
        Making two = () -> {
            PaperForms x = graded();
            x.rule(0, 3);
            x.change(0, 1, 1);
            x.change(1, 1, 1);
            x.change(2, 1, 1);
            x.topic(0, 0, 3);
            x.topic(1, 0, 3);
            x.enemy(0, 3, true);
            x.enemy(0, 4, true);
            x.enemy(0, 5, true);
            return x;
        };
        answers(24, "one two alone, FIRST", two, x -> x.forms(0), 7);
        answers(24, "one two alone, SECOND", two, x -> x.forms(1), 56);
        answers(25, "one two alone", two, x -> x.gap(), bits(number(two.make().value(56)) - number(two.make().value(7))));
        PaperForms x = new PaperForms();
        greatest(x);
        x.rule(0, 6);
        x.rule(1, 120);
        answers(24, "halves of twelve, FIRST", x, y -> y.forms(0), 63);
        answers(24, "halves of twelve, SECOND", x, y -> y.forms(1), 4032);
        answers(25, "halves of twelve", x, y -> y.gap(), 0);
        likeForms();
    }

    /** Of like lesser values the least FIRST, then the least SECOND. */
    private static void likeForms() {
        PaperForms x = new PaperForms();
        int[] minutes = {3, 1, 3, 9, 3};
        for (int m : minutes) {
            x.add(5, 0, m, 4, 0, -1);
        }
        x.aim(0, 0, 1);
        x.rule(0, 1);
        // The lesser is 3 of items 0, 2, 4 with one another or with item 3.
        answers(24, "the least FIRST", x, y -> y.forms(0), 1);
        answers(24, "the least SECOND", x, y -> y.forms(1), 4);
        answers(25, "of like ones", x, y -> y.gap(), 0);
        x.enemy(0, 2, true);
        answers(24, "ENEMIES in two forms are no matter", x, y -> y.forms(1), 4);
        x.change(2, 2, 1);
        answers(24, "the next SECOND", x, y -> y.forms(1), 8);
        answers(25, "the SECOND is the greater", x, y -> y.gap(), bits(number(x.value(8)) - number(x.value(1))));
        x.change(3, 2, 1);
        x.change(0, 2, 9);
        answers(24, "the FIRST is the greater", x, y -> y.forms(0), 1);
        answers(24, "the SECOND is the lesser", x, y -> y.forms(1), 16);
        answers(25, "the FIRST is the greater", x, y -> y.gap(), bits(number(x.value(1)) - number(x.value(16))));
    }

    private static void use26() {
        sets(26, "use", (x, a) -> x.use(a[0]), BEYOND);
        refused(26, "nothing, no ITEMS", EMPTY, x -> x.use(0), STATE);
        refused(26, "nothing", GRADED, x -> x.use(0), STATE);
        refused(26, "one too few", GRADED, x -> x.use(32), STATE);
        refused(26, "one too many", GRADED, x -> x.use(7), STATE);
        refused(26, "all", RICH, x -> x.use(4095), STATE);
        PaperForms x = alike(12);
        x.change(11, 6, 998);
        answers(26, "to EXPOSED, and the most", x, y -> y.use(2049), 1);
        due(26, "USED of the last", x.of(11, 6), 999);
        due(26, "USED of the first", x.of(0, 6), 1);
        due(26, "USED of all", x.count(2), 1000);
        due(26, "it is worn", x.use(2049), STATE);
        due(26, "that used nothing", x.count(2), 1000);
        x = alike(12);
        x.rule(2, 1);
        for (int i = 0; i < 6; i++) {
            int set = 3 << 2 * i;
            answers(26, "one after the other", x, y -> y.use(set), 2 * i + 2);
        }
        due(26, "all are worn", x.use(3), STATE);
        x = alike(12);
        x.rule(2, 5);
        x.change(11, 6, 5);
        x.change(10, 6, 6);
        x.change(9, 6, 999);
        x.change(8, 6, 4);
        x.change(0, 6, 3);
        answers(26, "those that others wore count, 4 of 5 doesn't", x, y -> y.use(3), 3);
        answers(26, "one more", x, y -> y.use(257), 5);
    }

    private static void uses27() {
        for (int n : new int[] {0, 21, -1, LEAST, MOST}) {
            refused(27, "uses(" + n + ")", RICH, x -> x.uses(n), BEYOND);
            refused(27, "uses(" + n + "), no ITEMS", EMPTY, x -> x.uses(n), BEYOND);
        }
        answers(27, "no ITEMS", EMPTY, x -> x.uses(1), 0);
        answers(27, "no ITEMS", EMPTY, x -> x.uses(20), 0);
        PaperForms x = answers(27, "once", GRADED, y -> y.uses(1), 1);
        due(27, "the best", x.of(5, 6), 1);
        due(27, "USED of all", x.count(2), 2);
        x = answers(27, "twenty times", GRADED, y -> y.uses(20), 20);
        due(27, "the best", x.of(4, 6), 20);
        due(27, "the best", x.of(5, 6), 20);
        due(27, "USED of all", x.count(2), 40);
        x = alike(2);
        x.change(0, 6, 998);
        answers(27, "just once", x, y -> y.uses(20), 1);
        due(27, "to the most", x.of(0, 6), 999);
        due(27, "the other one", x.of(1, 6), 1);
        answers(27, "no more", x, y -> y.uses(1), 0);
        for (int exposed = 18; exposed <= 22; exposed++) {
            x = alike(2);
            x.rule(2, exposed);
            answers(27, "as long as there is one", x, y -> y.uses(20), Math.min(exposed, 20));
            due(27, "USED", x.of(0, 6), Math.min(exposed, 20));
        }
        x = graded();
        x.rule(2, 1);
        answers(27, "another one each time", x, y -> y.uses(20), 3);
        for (int i = 0; i < 6; i++) {
            due(27, "each once", x.of(i, 6), 1);
        }
        x = alike(12);
        x.rule(0, 6);
        x.rule(2, 10);
        answers(27, "the first half, then the second", x, y -> y.uses(20), 20);
        due(27, "all are worn", x.count(2), 120);
        answers(27, "none is left", x, y -> y.uses(20), 0);
    }

    private static void loose28() {
        for (int n : new int[] {0, 21, -1, LEAST, MOST}) {
            refused(28, "loose(" + n + ")", RICH, x -> x.loose(n), BEYOND);
            refused(28, "loose(" + n + "), no ITEMS", EMPTY, x -> x.loose(n), BEYOND);
        }
        for (int n : new int[] {1, 20}) {
            PaperForms x = answers(28, "no ITEMS", EMPTY, y -> y.loose(n), 0);
            int z = 1;
            for (int i = 0; i < 2 * n; i++) {
                z = z * 1103515245 + 12345;
            }
            due(28, "two draws each", x.count(4), z);
        }
        for (int seed : new int[] {1, 0, -1, LEAST, MOST, 77, 1 << 20, -1103515245}) {
            for (int n : new int[] {1, 20}) {
                for (int weight : new int[] {0, 5}) {
                    looseRun(seed, n, drawn(6, 3, 999, weight));
                    looseRun(seed, n, drawn(6, 3, 2, weight));
                    looseRun(seed, n, drawn(6, 3, 1, weight));
                    looseRun(seed, n, drawn(12, 6, 999, weight));
                    looseRun(seed, n, drawn(12, 6, 2, weight));
                    looseRun(seed, n, drawn(1, 1, 5, weight));
                    looseRun(seed, n, drawn(2, 1, 20, weight));
                }
            }
        }
    }

    /** Essays of 1, 2, .. minutes, which are alike without a weight. */
    private static Making drawn(int items, int size, int exposed, int weight) {
        return () -> {
            PaperForms x = new PaperForms();
            for (int i = 0; i < items; i++) {
                x.add(5, 0, i + 1, 4, 0, -1);
            }
            x.aim(0, 0, weight);
            x.rule(0, size);
            x.rule(1, 240);
            x.rule(2, exposed);
            return x;
        };
    }

    /** A run of draws beside one that is drawn here; a twin tells the values. */
    private static void looseRun(int seed, int n, Making state) {
        PaperForms twin = state.make();
        int items = twin.count(0);
        int size = twin.told(0);
        int exposed = twin.told(2);
        int[] used = new int[items];
        int z = seed;
        int often = 0;
        for (int i = 0; i < n; i++) {
            int[] sets = new int[2];
            boolean[] papers = new boolean[2];
            for (int draw = 0; draw < 2; draw++) {
                z = z * 1103515245 + 12345;
                sets[draw] = (z >>> 8) % 4096 % (1 << items);
                papers[draw] = Integer.bitCount(sets[draw]) == size;
                for (int item = 0; item < items; item++) {
                    papers[draw] &= (sets[draw] & 1 << item) == 0 || used[item] < exposed;
                }
            }
            boolean second = papers[1]
                    && (!papers[0] || number(twin.value(sets[1])) > number(twin.value(sets[0])));
            if (papers[0] || papers[1]) {
                often++;
                for (int item = 0; item < items; item++) {
                    used[item] += sets[second ? 1 : 0] >> item & 1;
                }
            }
        }
        PaperForms x = state.make();
        x.seed(seed);
        String what = "loose(" + n + ") of " + items + " from " + seed;
        int wanted = often;
        answers(28, what, x, y -> y.loose(n), wanted);
        due(28, what + ": z", x.count(4), z);
        for (int item = 0; item < items; item++) {
            due(28, what + ": USED of " + item, x.of(item, 6), used[item]);
        }
    }

    private static void seed29() {
        PaperForms x = new PaperForms();
        int before = 1;
        for (int v : new int[] {0, -1, LEAST, MOST, BEYOND, SIZE, 1}) {
            int was = before;
            answers(29, "seed(" + v + ")", x, y -> y.seed(v), was);
            answers(29, "z", x, y -> y.count(4), v);
            before = v;
        }
        // Each draw wraps around: z stays an int.
        for (int v : new int[] {LEAST, MOST, -1, 0}) {
            x.seed(v);
            x.loose(1);
            int z = (int) ((v * 1103515245L + 12345L) * 1103515245L + 12345L);
            due(29, "z after two draws from " + v, x.seed(5), z);
        }
    }

    // ---- promises 30 to 33: shelves

    private static void shelf30() {
        int[][] ranges = {{0, 3}, {0, 5}};
        Asking shelf = (x, a) -> x.shelf(a[0], a[1]);
        outside(30, "shelf", RICH, new int[] {0, 0}, ranges, shelf, BEYOND);
        outside(30, "shelf", RICH, new int[] {1, 5}, ranges, shelf, BEYOND);
        outside(30, "shelf", EMPTY, new int[] {3, 3}, ranges, shelf, BEYOND);
        int[] stood = {6, 2, 0, 0};
        for (int s = 0; s < 4; s++) {
            for (int kind = 0; kind < 6; kind++) {
                int at = s;
                int k = kind;
                PaperForms x = answers(30, "how many stood there", RICH, y -> y.shelf(at, k), stood[s]);
                due(30, "it is empty", x.count(5), 8 - stood[s]);
                for (int place = 0; place < 6; place++) {
                    due(30, "it is empty", x.stands(s, place, 0), MISSING);
                }
                for (int item = 0; item < 6; item++) {
                    due(30, "it is for that KIND", x.lay(s, item, item), IS_OF[item][kind] ? -1 : KIND);
                }
                answers(30, "none stood, but what came since", x, y -> y.shelf(at, k), x.count(5) - 8 + stood[s]);
                answers(30, "none stood there any more", x, y -> y.shelf(at, k), 0);
            }
        }
    }

    private static void lay31() {
        int[][] ranges = {{0, 3}, {0, 5}, {0, 11}};
        Asking lay = (x, a) -> x.lay(a[0], a[1], a[2]);
        outside(31, "lay", RICH, new int[] {0, 0, 0}, ranges, lay, BEYOND);
        outside(31, "lay, which would be KIND", RICH, new int[] {1, 0, 0}, ranges, lay, BEYOND);
        outside(31, "lay of none", EMPTY, new int[] {0, 0, 0}, new int[][] {{0, 3}, {0, 5}, {0, -1}}, lay, BEYOND);
        refused(31, "lay of none", EMPTY, x -> x.lay(3, 5, 0), BEYOND);
        refused(31, "lay of a second", ONE, x -> x.lay(0, 0, 1), BEYOND);
        for (int kind = 0; kind < 6; kind++) {
            for (int item = 0; item < 6; item++) {
                int k = kind;
                int i = item;
                Making state = () -> {
                    PaperForms x = rich();
                    x.shelf(3, k);
                    return x;
                };
                if (IS_OF[item][kind]) {
                    PaperForms x = answers(31, "it is of that KIND", state, y -> y.lay(3, 5, i), -1);
                    due(31, "its number", x.stands(3, 5, 0), item);
                    due(31, "its KIND", x.stands(3, 5, 1), item);
                    answers(31, "what stood there", x, y -> y.lay(3, 5, i), item);
                } else {
                    refused(31, "the SHELF is for another KIND", state, x -> x.lay(3, 5, i), KIND);
                }
            }
        }
        // What stands there stays, if another KIND is refused.
        refused(31, "onto another thing", RICH, x -> x.lay(1, 0, 0), KIND);
        refused(31, "onto another thing", RICH, x -> x.lay(1, 5, 11), KIND);
        for (int place = 0; place < 6; place++) {
            int at = place;
            answers(31, "on a full SHELF", RICH, x -> x.lay(0, at, 0), at + 6);
            answers(31, "on an empty SHELF", RICH, x -> x.lay(3, at, 11), -1);
            PaperForms x = answers(31, "the first ITEM", RICH, y -> y.lay(3, at, 0), -1);
            answers(31, "the first ITEM stood there", x, y -> y.lay(3, at, 11), 0);
        }
    }

    private static void stands32() {
        int[][] ranges = {{0, 3}, {0, 5}, {0, 1}};
        Asking stands = (x, a) -> x.stands(a[0], a[1], a[2]);
        outside(32, "stands", RICH, new int[] {0, 0, 0}, ranges, stands, BEYOND);
        outside(32, "stands, which would be MISSING", RICH, new int[] {3, 5, 1}, ranges, stands, BEYOND);
        outside(32, "stands, which would be MISSING", EMPTY, new int[] {0, 0, 0}, ranges, stands, BEYOND);
        for (int what = 0; what < 2; what++) {
            int w = what;
            for (int place = 0; place < 6; place++) {
                int at = place;
                answers(32, "on a full SHELF", RICH, x -> x.stands(0, at, w), w == 0 ? at + 6 : at);
                refused(32, "on an empty SHELF", RICH, x -> x.stands(2, at, w), MISSING);
            }
            for (int place = 1; place < 5; place++) {
                int at = place;
                refused(32, "between two", RICH, x -> x.stands(1, at, w), MISSING);
            }
            answers(32, "the first place", RICH, x -> x.stands(1, 0, w), 1);
            answers(32, "the last place", RICH, x -> x.stands(1, 5, w), 3);
        }
        PaperForms x = rich();
        for (int i = 0; i < 12; i++) {
            x.change(i, 0, 0);
        }
        for (int i = 0; i < 12; i++) {
            x.drop();
        }
        for (int place = 0; place < 6; place++) {
            due(32, "the number that it had", x.stands(0, place, 0), place + 6);
            due(32, "the KIND that it was", x.stands(0, place, 1), place);
        }
    }

    private static void moves33() {
        Asking moves = (x, a) -> x.moves(a[0], a[1]);
        outside(33, "moves", RICH, new int[] {0, 1}, new int[][] {{0, 3}, {0, 3}}, moves, BEYOND);
        outside(33, "moves", EMPTY, new int[] {0, 0}, new int[][] {{0, 3}, {0, 3}}, moves, BEYOND);
        PaperForms x = answers(33, "nothing onto a full one", RICH, y -> y.moves(3, 0), 6);
        due(33, "nothing came as nothing", x.count(5), 2);
        x = answers(33, "a full one onto an empty one", RICH, y -> y.moves(0, 3), 6);
        due(33, "they stand on both", x.count(5), 14);
        for (int place = 0; place < 6; place++) {
            due(33, "number", x.stands(3, place, 0), place + 6);
            due(33, "KIND", x.stands(3, place, 1), place);
            due(33, "it stays", x.stands(0, place, 0), place + 6);
        }
        x = answers(33, "a full one onto itself", RICH, y -> y.moves(0, 0), 6);
        due(33, "all stays", x.count(5), 8);
        x = answers(33, "an empty one onto itself", RICH, y -> y.moves(2, 2), 6);
        due(33, "all stays", x.count(5), 8);
        x = answers(33, "the first ends it", RICH, y -> y.moves(0, 1), 0);
        due(33, "all stays", x.stands(1, 0, 0), 1);
        due(33, "all stays", x.count(5), 8);
        for (int end = 0; end < 6; end++) {
            movesUpTo(end);
        }
        for (int kind = 0; kind < 6; kind++) {
            for (int item = 0; item < 6; item++) {
                x = rich();
                x.shelf(2, kind);
                x.shelf(3, 0);
                x.lay(3, 0, item);
                x.change(item, 0, kind);
                boolean fits = IS_OF[item][kind];
                answers(33, "as of the KIND that it was", x, y -> y.moves(3, 2), fits ? 6 : 0);
                due(33, "its number", x.stands(2, 0, 0), fits ? item : MISSING);
                due(33, "its KIND", x.stands(2, 0, 1), fits ? item : MISSING);
            }
        }
    }

    /** One place has what can't stand there: all ahead of it comes, nothing behind it. */
    private static void movesUpTo(int end) {
        PaperForms x = rich();
        for (int place = 0; place < 6; place++) {
            x.lay(0, place, place == end ? 2 : 7);
            x.lay(1, place, 3);
        }
        answers(33, "place " + end + " ends it", x, y -> y.moves(0, 1), end);
        for (int place = 0; place < 6; place++) {
            due(33, "place " + place, x.stands(1, place, 0), place < end ? 7 : 3);
            due(33, "place " + place, x.stands(1, place, 1), place < end ? 1 : 3);
        }
        x.shelf(0, 0);
        if (end > 0) {
            x.lay(0, end, 2);
            answers(33, "nothing ahead of it", x, y -> y.moves(0, 1), end);
            due(33, "nothing came as nothing", x.shelf(1, 1), 6 - end);
        }
    }

    // ---- promises 34 to 41: sheets

    private static void sheet34() {
        int[][] ranges = {{0, 3}, {-1, 2}};
        for (int n : new int[] {-1, 0, 40, 41, LEAST, MOST}) {
            Asking sheet = (x, a) -> x.sheet(a[0], a[1], n);
            outside(34, "sheet, n " + n, RICH, new int[] {0, 0}, ranges, sheet, BEYOND);
            outside(34, "sheet, n " + n, EMPTY, new int[] {3, 2}, ranges, sheet, BEYOND);
            outside(34, "sheet, n " + n, RICH, new int[] {0, -1}, ranges, sheet, BEYOND);
            for (int s = 0; s < 4; s++) {
                int at = s;
                PaperForms x = answers(34, "MISSING, n " + n, RICH, y -> y.sheet(at, -1, n), 0);
                due(34, "it is MISSING", x.item(s, 0), LONG_MISSING);
                due(34, "it is MISSING", x.sum(s), LONG_MISSING);
            }
        }
        for (int s = 0; s < 4; s++) {
            for (int sort = 0; sort < 3; sort++) {
                int at = s;
                int of = sort;
                refused(34, "n -1", RICH, x -> x.sheet(at, of, -1), SIZE);
                refused(34, "n far below", RICH, x -> x.sheet(at, of, LEAST), SIZE);
                refused(34, "n 41", RICH, x -> x.sheet(at, of, 41), BEYOND);
                refused(34, "n far above", RICH, x -> x.sheet(at, of, MOST), BEYOND);
                sheetsOfEachLength(s, sort);
            }
        }
    }

    private static void sheetsOfEachLength(int s, int sort) {
        for (int n : new int[] {0, 1, 39, 40}) {
            PaperForms x = answers(34, "n " + n, RICH, y -> y.sheet(s, sort, n), n);
            for (int i = 0; i < n; i++) {
                due(34, "all 0", x.item(s, i), 0);
                x.write(s, i, -9);
            }
            due(34, "no more", x.item(s, n), LONG_BEYOND);
            x.sheet(s, sort, 0);
            due(34, "none", x.item(s, 0), LONG_BEYOND);
            answers(34, "all again", x, y -> y.sheet(s, sort, 40), 40);
            for (int i = 0; i < 40; i++) {
                due(34, "all 0 again", x.item(s, i), 0);
            }
            x.write(s, 0, 3);
            due(34, "of that sort", x.item(s, 0), eighths(sort, 3));
        }
    }

    /** What a sheet of a sort tells of v eighths. */
    private static long eighths(int sort, int v) {
        return sort == 0 ? v : sort == 1 ? Float.floatToIntBits(v / 8f) : bits(v / 8.0);
    }

    private static void writeAndItem35And36() {
        for (int i : new int[] {-1, 0, 39, 40, LEAST, MOST}) {
            for (int s : new int[] {-1, 4, LEAST, MOST}) {
                refused(35, "no such SHEET, number " + i, RICH, x -> x.write(s, i, 1), BEYOND);
                refused(36, "no such SHEET, number " + i, RICH, x -> x.item(s, i), LONG_BEYOND);
            }
            refused(35, "MISSING, number " + i, RICH, x -> x.write(3, i, 1), MISSING);
            refused(36, "MISSING, number " + i, RICH, x -> x.item(3, i), LONG_MISSING);
            refused(35, "MISSING, number " + i, EMPTY, x -> x.write(0, i, 1), MISSING);
            refused(36, "MISSING, number " + i, EMPTY, x -> x.item(0, i), LONG_MISSING);
            refused(35, "of 0 numbers number " + i, RICH, x -> x.write(2, i, 1), BEYOND);
            refused(36, "of 0 numbers number " + i, RICH, x -> x.item(2, i), LONG_BEYOND);
        }
        for (int i : new int[] {-1, 40, LEAST, MOST}) {
            refused(35, "of 40 numbers number " + i, RICH, x -> x.write(0, i, 1), BEYOND);
            refused(36, "of 40 numbers number " + i, RICH, x -> x.item(0, i), LONG_BEYOND);
        }
        for (int i : new int[] {-1, 5, 39, LEAST, MOST}) {
            refused(35, "of 5 numbers number " + i, RICH, x -> x.write(1, i, 1), BEYOND);
            refused(36, "of 5 numbers number " + i, RICH, x -> x.item(1, i), LONG_BEYOND);
        }
        for (int sort = 0; sort < 3; sort++) {
            PaperForms x = new PaperForms();
            x.sheet(3, sort, 40);
            for (int v : new int[] {0, 1, -1, LEAST, MOST, LEAST + 1, 16777217, -16777217, 16777216, BEYOND}) {
                for (int i : new int[] {0, 39}) {
                    answers(35, "write " + v, x, y -> y.write(3, i, v), 1);
                    answers(36, "of sort " + sort, x, y -> y.item(3, i), eighths(sort, v));
                }
            }
            due(35, "the others stay", x.item(3, 1), 0);
            due(35, "the others stay", x.item(3, 38), 0);
        }
    }

    private static void copy37() {
        int[][] ranges = {{0, 3}, {0, 6}, {0, 3}, {0, 4}, {0, 4}};
        Asking copy = (x, a) -> x.copy(a[0], a[1], a[2], a[3], a[4]);
        outside(37, "copy", SHEETS, new int[] {0, 0, 1, 0, 4}, ranges, copy, BEYOND);
        outside(37, "copy of none", SHEETS, new int[] {0, 0, 1, 0, 0}, ranges, copy, BEYOND);
        outside(37, "copy of one", SHEETS, new int[] {0, 5, 1, 3, 1}, ranges, copy, BEYOND);
        for (int n = 0; n <= 4; n++) {
            int all = n;
            refused(37, "the first has not so many", SHEETS, x -> x.copy(0, 7 - all, 1, 0, all), BEYOND);
            refused(37, "the second has not so many", SHEETS, x -> x.copy(0, 0, 1, 5 - all, all), BEYOND);
            PaperForms x = answers(37, "just so many", SHEETS, y -> y.copy(0, 6 - all, 1, 4 - all, all), all);
            for (int i = 0; i < 4; i++) {
                due(37, "what came, what stayed", x.item(1, i), i >= 4 - n ? i + 3 : 10 * i + 10);
            }
            for (int i = 0; i < 6; i++) {
                due(37, "the first stays", x.item(0, i), i + 1);
            }
        }
        // i and n, or j and n, together are beyond all ints.
        int[][] wraps = {{MOST, 0, MOST}, {0, MOST, MOST}, {1, 0, MOST}, {0, 1, MOST}, {MOST, 0, 1}, {0, MOST, 1},
            {LEAST, 0, LEAST}, {0, LEAST, LEAST}, {LEAST, LEAST, 0}, {MOST, MOST, LEAST}, {-1, 0, 1}, {0, -1, 1},
            {-1, -1, 2}, {LEAST, 0, MOST}, {1, 1, -1}, {6, 4, -4}};
        for (int[] w : wraps) {
            refused(37, "copy " + w[0] + ", " + w[1] + ", " + w[2], SHEETS, x -> x.copy(0, w[0], 1, w[1], w[2]), BEYOND);
            refused(37, "onto itself " + w[0] + ", " + w[1], SHEETS, x -> x.copy(0, w[0], 0, w[1], w[2]), BEYOND);
        }
        for (int sort = 0; sort < 3; sort++) {
            copyOfForty(sort);
        }
    }

    private static void copyOfForty(int sort) {
        PaperForms x = new PaperForms();
        x.sheet(0, sort, 40);
        x.sheet(3, sort, 40);
        for (int i = 0; i < 40; i++) {
            x.write(0, i, i - 20);
        }
        answers(37, "40 of 40", x, y -> y.copy(0, 0, 3, 0, 40), 40);
        for (int i = 0; i < 40; i++) {
            due(37, "what came", x.item(3, i), eighths(sort, i - 20));
        }
        due(37, "41 of 40", x.copy(0, 0, 3, 0, 41), BEYOND);
        answers(37, "one place up", x, y -> y.copy(0, 0, 0, 1, 39), 39);
        for (int i = 0; i < 40; i++) {
            due(37, "as they all were", x.item(0, i), eighths(sort, Math.max(i - 1, 0) - 20));
        }
        answers(37, "one place down", x, y -> y.copy(3, 1, 3, 0, 39), 39);
        for (int i = 0; i < 40; i++) {
            due(37, "as they all were", x.item(3, i), eighths(sort, Math.min(i + 1, 39) - 20));
        }
        answers(37, "onto themselves", x, y -> y.copy(3, 0, 3, 0, 40), 40);
        answers(37, "none, behind the last", x, y -> y.copy(3, 40, 0, 40, 0), 0);
        due(37, "none, further behind", x.copy(3, 41, 0, 40, 0), BEYOND);
        due(37, "none, further behind", x.copy(3, 40, 0, 41, 0), BEYOND);
        x.sheet(1, sort, 0);
        x.sheet(2, sort, 0);
        answers(37, "none of none", x, y -> y.copy(1, 0, 2, 0, 0), 0);
        answers(37, "none of none onto itself", x, y -> y.copy(1, 0, 1, 0, 0), 0);
        due(37, "one of none", x.copy(1, 0, 0, 0, 1), BEYOND);
        due(37, "one to none", x.copy(0, 0, 1, 0, 1), BEYOND);
    }

    /** BEYOND of SHEETS ahead of MISSING ahead of KIND ahead of BEYOND of numbers. */
    private static void copyOrder37() {
        for (int[] w : new int[][] {{0, 0, 1}, {-1, 0, 1}, {0, -1, 1}, {0, 0, -1}, {7, 0, 0}, {0, 0, 41}, {LEAST, MOST, 9}}) {
            for (int s : new int[] {-1, 4, LEAST, MOST}) {
                refused(37, "no such SHEET", SHEETS, x -> x.copy(s, w[0], 0, w[1], w[2]), BEYOND);
                refused(37, "no such SHEET", SHEETS, x -> x.copy(0, w[0], s, w[1], w[2]), BEYOND);
                refused(37, "no such SHEET, a MISSING one", SHEETS, x -> x.copy(s, w[0], 3, w[1], w[2]), BEYOND);
                refused(37, "a MISSING one, no such SHEET", SHEETS, x -> x.copy(3, w[0], s, w[1], w[2]), BEYOND);
            }
            for (int s = 0; s < 4; s++) {
                int at = s;
                refused(37, "to a MISSING one", SHEETS, x -> x.copy(at, w[0], 3, w[1], w[2]), MISSING);
                refused(37, "of a MISSING one", SHEETS, x -> x.copy(3, w[0], at, w[1], w[2]), MISSING);
            }
            for (int s = 0; s < 2; s++) {
                int at = s;
                refused(37, "unlike sorts", SHEETS, x -> x.copy(at, w[0], 2, w[1], w[2]), KIND);
                refused(37, "unlike sorts", SHEETS, x -> x.copy(2, w[0], at, w[1], w[2]), KIND);
            }
        }
        for (int sort = 0; sort < 3; sort++) {
            for (int other = 0; other < 3; other++) {
                PaperForms x = new PaperForms();
                x.sheet(0, sort, 0);
                x.sheet(1, other, 0);
                due(37, "none of sorts " + sort + ", " + other, x.copy(0, 0, 1, 0, 0), sort == other ? 0 : KIND);
            }
        }
    }

    private static void casts38() {
        int[][] ranges = {{0, 3}, {0, 3}};
        Asking casts = (x, a) -> x.casts(a[0], a[1]);
        outside(38, "casts", RICH, new int[] {0, 1}, ranges, casts, BEYOND);
        outside(38, "casts, which would be MISSING", RICH, new int[] {3, 3}, ranges, casts, BEYOND);
        outside(38, "casts, which would be MISSING", EMPTY, new int[] {0, 0}, ranges, casts, BEYOND);
        for (int s = 0; s < 4; s++) {
            int at = s;
            refused(38, "to a MISSING one", RICH, x -> x.casts(at, 3), MISSING);
            refused(38, "of a MISSING one", RICH, x -> x.casts(3, at), MISSING);
            refused(38, "both are MISSING", EMPTY, x -> x.casts(at, at), MISSING);
        }
        int[] lengths = {40, 5, 0};
        for (int s = 0; s < 3; s++) {
            for (int t = 0; t < 3; t++) {
                int of = s;
                int to = t;
                int most = Math.min(lengths[s], lengths[t]);
                answers(38, "as far as both have numbers", RICH, x -> x.casts(of, to), most);
            }
        }
        castsOfEdges();
        // Cut towards 0; rests of eighths, of both signs.
        PaperForms x = new PaperForms();
        for (int sort = 1; sort < 3; sort++) {
            x.sheet(sort, sort, 40);
            x.sheet(0, 0, 40);
            for (int i = 0; i < 40; i++) {
                x.write(sort, i, i - 20);
            }
            x.casts(sort, 0);
            for (int i = 0; i < 40; i++) {
                due(38, "cut", x.item(0, i), (i - 20) / 8);
            }
        }
    }

    private static void castsOfEdges() {
        int[] ints = {LEAST, LEAST + 1, LEAST + 64, MOST, MOST - 1, MOST - 63, MOST - 64, MOST - 191, 16777216,
            16777217, 16777218, 16777219, -16777217, -16777219, 33554434, 33554435, 0, -1};
        PaperForms x = new PaperForms();
        for (int s = 0; s < 3; s++) {
            x.sheet(s, s, 40);
        }
        for (int i = 0; i < ints.length; i++) {
            x.write(0, i, ints[i]);
        }
        answers(38, "ints to floats", x, y -> y.casts(0, 1), 40);
        answers(38, "ints to doubles", x, y -> y.casts(0, 2), 40);
        for (int i = 0; i < ints.length; i++) {
            due(38, "rounded", x.item(1, i), Float.floatToIntBits((float) ints[i]));
            due(38, "as it is", x.item(2, i), bits(ints[i]));
        }
        answers(38, "floats to ints", x, y -> y.casts(1, 0), 40);
        for (int i = 0; i < ints.length; i++) {
            due(38, "held within ints", x.item(0, i), (int) (float) ints[i]);
        }
        answers(38, "doubles to floats", x, y -> y.casts(2, 1), 40);
        for (int i = 0; i < ints.length; i++) {
            due(38, "rounded", x.item(1, i), Float.floatToIntBits((float) (double) ints[i]));
        }
        answers(38, "floats to doubles", x, y -> y.casts(1, 2), 40);
        for (int i = 0; i < ints.length; i++) {
            due(38, "as it is", x.item(2, i), bits((float) ints[i]));
        }
        answers(38, "doubles to ints", x, y -> y.casts(2, 0), 40);
        for (int i = 0; i < ints.length; i++) {
            due(38, "held within ints", x.item(0, i), (int) (double) (float) ints[i]);
        }
        due(38, "2147483648 is held", x.item(0, 3), MOST);
        due(38, "-2147483648 is one", x.item(0, 0), LEAST);
    }

    private static void table39() {
        int[][] ranges = {{0, 3}, {0, 11}, {-64, 64}, {-64, 64}};
        Asking table = (x, a) -> x.table(a[0], a[1], a[2], a[3]);
        outside(39, "table", RICH, new int[] {0, 0, 0, 1}, ranges, table, BEYOND);
        outside(39, "table of 0 numbers", RICH, new int[] {2, 0, 0, 1}, ranges, table, BEYOND);
        outside(39, "table, which would be MISSING", RICH, new int[] {3, 11, 64, -64}, ranges, table, BEYOND);
        refused(39, "no ITEMS; MISSING", EMPTY, x -> x.table(0, 0, 0, 0), BEYOND);
        refused(39, "MISSING", RICH, x -> x.table(3, 0, 0, 0), MISSING);
        refused(39, "MISSING", RICH, x -> x.table(3, 11, -64, 64), MISSING);
        refused(39, "MISSING", ONE, x -> x.table(0, 0, 64, -64), MISSING);
        Making noItems = () -> {
            PaperForms x = new PaperForms();
            x.sheet(0, 2, 40);
            return x;
        };
        refused(39, "no ITEMS", noItems, x -> x.table(0, 0, 0, 0), BEYOND);
        answers(39, "0 numbers", RICH, x -> x.table(2, 11, -64, 64), 0);
        // from, step: how many of 40 there are from -64 to 64.
        int[][] runs = {{-64, 0, 40}, {64, 0, 40}, {-64, 64, 3}, {64, -64, 3}, {64, 64, 1}, {-64, -64, 1}, {64, 1, 1},
            {-64, -1, 1}, {0, 64, 2}, {0, -64, 2}, {1, 64, 1}, {-1, -64, 1}, {63, 1, 2}, {-63, -1, 2}, {-64, 1, 40},
            {64, -1, 40}, {25, 1, 40}, {26, 1, 39}, {-25, -1, 40}, {-26, -1, 39}, {-14, 2, 40}, {-13, 2, 39},
            {14, -2, 40}, {13, -2, 39}, {-64, 3, 40}, {-53, 3, 40}, {-52, 3, 39}, {-64, 63, 3}, {-64, 4, 33}};
        for (int[] run : runs) {
            for (int sort = 0; sort < 3; sort++) {
                tableRun(run, sort, sort * 5 + 1);
            }
        }
    }

    private static void tableRun(int[] run, int sort, int item) {
        PaperForms x = rich();
        x.sheet(3, sort, 40);
        for (int i = 0; i < 40; i++) {
            x.write(3, i, 8888);
        }
        String what = "from " + run[0] + " by " + run[1];
        answers(39, what, x, y -> y.table(3, item, run[0], run[1]), run[2]);
        int[] facts = {x.of(item, 0), x.of(item, 2), x.of(item, 3), x.of(item, 4)};
        for (int i = 0; i < 40; i++) {
            double tells = tells(facts[0], facts[1], facts[2], facts[3], run[0] + i * run[1]);
            long came = sort == 0 ? (int) tells : sort == 1 ? Float.floatToIntBits((float) tells) : bits(tells);
            due(39, what + ", number " + i, x.item(3, i), i < run[2] ? came : eighths(sort, 8888));
        }
    }

    private static void rests40() {
        int[][] ranges = {{0, 3}, {1, 800}};
        Asking rests = (x, a) -> x.rests(a[0], a[1]);
        outside(40, "rests", RICH, new int[] {0, 5}, ranges, rests, BEYOND);
        outside(40, "rests", RICH, new int[] {1, 5}, ranges, rests, BEYOND);
        outside(40, "rests of 0 numbers", RICH, new int[] {2, 5}, ranges, rests, BEYOND);
        outside(40, "rests, which would be MISSING", RICH, new int[] {3, 800}, ranges, rests, BEYOND);
        for (int v : new int[] {1, 800}) {
            refused(40, "MISSING, by " + v, RICH, x -> x.rests(3, v), MISSING);
            refused(40, "MISSING, by " + v, EMPTY, x -> x.rests(0, v), MISSING);
            answers(40, "0 numbers, by " + v, RICH, x -> x.rests(2, v), 0);
            answers(40, "40 numbers, by " + v, RICH, x -> x.rests(0, v), 40);
        }
        int[] numbers = {0, 1, -1, 2, -2, 7, 8, 9, -8, 799, 800, 801, -799, -800, -801, 1600, 1601, LEAST, LEAST + 1,
            MOST, MOST - 1, 16777217, -16777219, 123456789};
        for (int v : new int[] {1, 2, 3, 7, 8, 799, 800}) {
            for (int sort = 0; sort < 3; sort++) {
                PaperForms x = new PaperForms();
                x.sheet(0, sort, numbers.length);
                for (int i = 0; i < numbers.length; i++) {
                    x.write(0, i, numbers[i]);
                }
                answers(40, "by " + v, x, y -> y.rests(0, v), numbers.length);
                for (int i = 0; i < numbers.length; i++) {
                    due(40, numbers[i] + " by " + v + ", sort " + sort, x.item(0, i), rest(sort, numbers[i], v));
                }
                x.rests(0, v);
                for (int i = 0; i < numbers.length; i++) {
                    due(40, "a rest stays", x.item(0, i), rest(sort, numbers[i], v));
                }
            }
        }
    }

    private static long rest(int sort, int n, int v) {
        if (sort == 0) {
            return n % v;
        }
        return sort == 1 ? Float.floatToIntBits(n / 8f % (v / 8f)) : bits(n / 8.0 % (v / 8.0));
    }

    private static void sum41() {
        outside(41, "sum", RICH, new int[] {0}, new int[][] {{0, 3}}, (x, a) -> x.sum(a[0]), LONG_BEYOND);
        outside(41, "sum", EMPTY, new int[] {0}, new int[][] {{0, 3}}, (x, a) -> x.sum(a[0]), LONG_BEYOND);
        refused(41, "MISSING", RICH, x -> x.sum(3), LONG_MISSING);
        for (int s = 0; s < 4; s++) {
            int at = s;
            refused(41, "MISSING", EMPTY, x -> x.sum(at), LONG_MISSING);
        }
        answers(41, "0 numbers", RICH, x -> x.sum(2), 0);
        for (int sort = 0; sort < 3; sort++) {
            PaperForms x = new PaperForms();
            x.sheet(0, sort, 0);
            answers(41, "0 numbers", x, y -> y.sum(0), 0);
            for (int v : new int[] {LEAST, MOST, -1, 0}) {
                x.sheet(0, sort, 40);
                double sum = 0.0;
                for (int i = 0; i < 40; i++) {
                    x.write(0, i, v);
                    sum += sort == 0 ? v : sort == 1 ? v / 8f : v / 8.0;
                }
                double wanted = sum;
                answers(41, "40 times " + v, x, y -> y.sum(0), bits(wanted));
            }
            x.sheet(0, sort, 1);
            x.write(0, 0, -8);
            x.rests(0, 8);
            answers(41, "0.0 and -0.0", x, y -> y.sum(0), 0);
        }
        // In another order the sum of these is another one.
        PaperForms x = new PaperForms();
        x.add(0, 0, 1, 7, 1, -1);
        x.sheet(0, 2, 40);
        x.table(0, 0, -64, 3);
        double sum = 0.0;
        double back = 0.0;
        for (int i = 0; i < 40; i++) {
            sum += tells(0, 1, 7, 1, -64 + 3 * i);
            back += tells(0, 1, 7, 1, -64 + 3 * (39 - i));
        }
        double wanted = sum;
        due(41, "the order counts", sum == back ? 0 : 1, 1);
        answers(41, "from number 0 on", x, y -> y.sum(0), bits(wanted));
    }

    // ---- promises 42 to 45: images, what is told

    private static void imageAndBack42And43() {
        refused(43, "nothing is kept", EMPTY, x -> x.back(), NONE);
        refused(43, "nothing is kept", GRADED, x -> x.back(), NONE);
        PaperForms x = answers(42, "nothing but what is at first", EMPTY, y -> y.image(), 1);
        for (int i = 0; i < 12; i++) {
            x.add(5, 3, 20, 12, 32, 3);
        }
        allEnemies(x, 12);
        answers(43, "no ITEMS were kept", x, y -> y.back(), 0);
        due(43, "nothing else changed", firstUnlike(bankOf(x), bankOf(new PaperForms())), -1);
        answers(43, "it stays", x, y -> y.back(), 0);
        due(43, "no ITEM", x.drop(), NONE);
        x.add(0, 0, 1, 1, 0, -1);
        due(43, "a new one has no ENEMIES", x.of(0, 7), 0);

        x = answers(42, "twelve ITEMS", RICH, y -> y.image(), 1);
        for (int i = 0; i < 12; i++) {
            x.drop();
        }
        answers(43, "twelve were kept", x, y -> y.back(), 12);
        due(43, "all as it was kept", firstUnlike(bankOf(x), bankOf(rich())), -1);
        x = answers(43, "eleven were kept", RICH, y -> y.back(), 11);
        due(43, "what was kept was another bank", firstUnlike(bankOf(x), bankOf(rich())) < 0 ? 1 : 0, 0);
        due(43, "SHELVES stay", x.count(5), 8);
        due(43, "SHEETS stay", x.item(0, 0), LEAST);
        due(43, "the twelfth is gone", x.of(11, 0), BEYOND);
        int before = x.status(-1);
        x.back();
        due(43, "back() takes no finding back", x.status(-1), before);
        keptLatest();
    }

    private static List<Long> bankOf(PaperForms x) {
        List<Long> all = new ArrayList<>();
        tellOfBank(x, all);
        return all;
    }

    /** What was kept latest, and nothing that came behind the image. */
    private static void keptLatest() {
        PaperForms x = alike(2);
        x.image();
        x.seed(LEAST);
        x.image();
        x.seed(MOST);
        answers(43, "the latest", x, y -> y.back(), 2);
        due(43, "z", x.count(4), LEAST);
        answers(42, "image() again and again", x, y -> y.image(), 1);
        answers(42, "image() again and again", x, y -> y.image(), 1);
        // What is kept is no part of what is there: a change behind back() changes no image.
        x.back();
        x.change(0, 2, 20);
        x.back();
        due(43, "MINUTES", x.of(0, 2), 1);
        x.uses(20);
        x.loose(20);
        x.back();
        due(43, "USED", x.count(2), 0);
        due(43, "z", x.count(4), LEAST);
        eachThingKept();
    }

    /** Each thing on its own to its least and its most behind an image, and back. */
    private static void eachThingKept() {
        List<Call> acts = new ArrayList<>();
        for (int what = 0; what < 7; what++) {
            int w = what;
            acts.add(x -> x.change(0, w, FACTS[w][0]));
            acts.add(x -> x.change(0, w, FACTS[w][1]));
            acts.add(x -> x.change(11, w, FACTS[w][0]));
            acts.add(x -> x.change(11, w, FACTS[w][1]));
        }
        for (int k = 0; k < 4; k++) {
            int at = k;
            acts.add(x -> x.aim(at, -64, 9));
            acts.add(x -> x.aim(at, 64, 0));
            acts.add(x -> x.topic(at, 0, 0));
            acts.add(x -> x.topic(at, 6, 6));
        }
        int[][] limits = {{1, 6}, {0, 240}, {0, 999}};
        for (int what = 0; what < 3; what++) {
            int w = what;
            acts.add(x -> x.rule(w, limits[w][0]));
            acts.add(x -> x.rule(w, limits[w][1]));
        }
        acts.add(x -> x.seed(LEAST));
        acts.add(x -> x.seed(MOST));
        acts.add(x -> x.enemy(0, 11, true));
        acts.add(x -> x.enemy(9, 11, false));
        acts.add(x -> x.drop());
        acts.add(x -> x.uses(20));
        acts.add(x -> x.loose(20));
        List<Long> before = bankOf(rich());
        for (int i = 0; i < acts.size(); i++) {
            PaperForms x = rich();
            x.image();
            acts.get(i).on(x);
            answers(43, "behind act " + i, x, y -> y.back(), 12);
            due(43, "the first thing unlike what was kept, act " + i, firstUnlike(bankOf(x), before), -1);
        }
    }

    private static void count44() {
        for (int what : new int[] {-1, 6, LEAST, MOST}) {
            refused(44, "count(" + what + ")", RICH, x -> x.count(what), BEYOND);
            refused(44, "count(" + what + ")", EMPTY, x -> x.count(what), BEYOND);
        }
        int[] none = {0, 0, 0, 0, 1, 0};
        int[] rich = {12, 3, 998 + 77, 78, -77, 8};
        for (int what = 0; what < 6; what++) {
            int w = what;
            answers(44, "count(" + what + "), no ITEMS", EMPTY, x -> x.count(w), none[what]);
            answers(44, "count(" + what + ")", RICH, x -> x.count(w), rich[what]);
        }
        PaperForms x = alike(12);
        allEnemies(x, 12);
        for (int i = 0; i < 12; i++) {
            x.change(i, 2, 20);
            x.change(i, 6, 999);
        }
        for (int place = 0; place < 24; place++) {
            x.lay(place / 6, place % 6, place % 12);
        }
        x.seed(LEAST);
        int[] most = {12, 66, 11988, 240, LEAST, 24};
        for (int what = 0; what < 6; what++) {
            int w = what;
            answers(44, "the most of " + what, x, y -> y.count(w), most[what]);
        }
        x.seed(MOST);
        answers(44, "the greatest z", x, y -> y.count(4), MOST);
        x.seed(BEYOND);
        answers(44, "a z like a finding", x, y -> y.count(4), BEYOND);
    }

    private static void status45() {
        for (int which : new int[] {-2, 8, LEAST, MOST}) {
            refused(45, "status(" + which + ")", RICH, x -> x.status(which), BEYOND);
            refused(45, "status(" + which + ")", EMPTY, x -> x.status(which), BEYOND);
        }
        PaperForms x = new PaperForms();
        for (int n = 1; n <= 40; n++) {
            due(45, "another one", x.status(n % 2 == 0 ? 8 : -2), BEYOND);
            due(45, "counted from then on", x.status(0), n);
            due(45, "counted from then on", x.status(-1), n);
            due(45, "asking counts nothing", x.status(7), 0);
        }
        // One of each kind, of those that answer ints and of those that answer longs.
        x = alike(12);
        long[] findings = {x.of(-1, 0), x.add(0, 0, 1, 1, 0, -1), x.as(0, 5), x.back(), x.use(1), x.sum(0),
            x.sheet(0, 0, -1), x.value(-1), x.gap()};
        long[] wanted = {BEYOND, FULL, KIND, NONE, STATE, LONG_MISSING, SIZE, LONG_BEYOND, 0};
        for (int i = 0; i < findings.length; i++) {
            due(45, "finding " + i, findings[i], wanted[i]);
        }
        int[] counted = {8, 2, 1, 1, 1, 1, 1, 1, 0};
        for (int which = -1; which < 8; which++) {
            due(45, "status(" + which + ")", x.status(which), counted[which + 1]);
        }
        x.image();
        x.drop();
        due(45, "a finding behind an image", x.as(0, 1), KIND);
        x.back();
        due(45, "back() takes none back", x.status(2), 2);
        due(45, "back() takes none back", x.status(-1), 9);
        x.seed(FULL);
        x.seed(NONE);
        x.seed(1);
        x.sheet(1, 0, 1);
        x.write(1, 0, MISSING);
        due(45, "a number like a finding", x.item(1, 0), MISSING);
        due(45, "answers like findings are none", x.status(-1), 9);
    }
}
