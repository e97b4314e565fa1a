/**
 * The document's promises one by one: ordinary inputs, the edges that it names, wrong
 * inputs, and that an act which answers a finding changes nothing but status(). No object
 * is used for more than 512 calls.
 */
public final class PromiseChecks {
    private static final int BEYOND = -1000001;
    private static final int FULL = -1000002;
    private static final int KIND = -1000003;
    private static final int NONE = -1000004;
    private static final int STATE = -1000005;
    private static final int MISSING = -1000006;
    private static final int SIZE = -1000007;
    private static final long LONG_BEYOND = -9000000000000000001L;
    private static final long LONG_NONE = -9000000000000000004L;
    private static final long LONG_MISSING = -9000000000000000006L;
    private static final int LEAST = Integer.MIN_VALUE;
    private static final int MOST = Integer.MAX_VALUE;

    private static int checks = 0;
    private static int wrong = 0;

    public static void main(String[] args) {
        newObject();
        items();
        kindsAndEnemies();
        slopesTellsChances();
        values();
        peaks();
        blueprint();
        rulesOneByOne();
        papersAndWithout();
        bestAndRank();
        swaps();
        formsAndGaps();
        useAndUses();
        looseAndSeed();
        shelves();
        moving();
        sheets();
        copying();
        casting();
        tables();
        restsAndSums();
        images();
        counts();
        statuses();
        fullBank();
        System.out.println(checks + " answers asked for, " + wrong + " of them not as due");
        if (wrong != 0) {
            System.exit(1);
        }
    }

    private static void due(int promise, String call, long got, long want) {
        checks++;
        if (got != want) {
            wrong++;
            System.out.println("promise " + promise + ": " + call + " answered " + got + ", due is " + want);
        }
    }

    private static long bits(double d) {
        return Double.doubleToLongBits(d);
    }

    private static int bits(float f) {
        return Float.floatToIntBits(f);
    }

    /** n items that are alike but for their topics, 0 to 3 in turn: 10 minutes, slope 1. */
    private static PaperForms bankOf(int n) {
        PaperForms x = new PaperForms();
        for (int i = 0; i < n; i++) {
            x.add(0, i % 4, 10, 4, 0, -1);
        }
        return x;
    }

    /** One item of each kind, with its kind's number, 8 minutes, slope 5/4, level 3/8. */
    private static PaperForms oneOfEachKind() {
        PaperForms x = new PaperForms();
        for (int kind = 0; kind < 6; kind++) {
            x.add(kind, 0, 8 + kind, 5, 3, -1);
        }
        return x;
    }

    private static void newObject() {
        PaperForms x = new PaperForms();
        due(1, "count(0)", x.count(0), 0);
        due(1, "count(1)", x.count(1), 0);
        due(1, "count(2)", x.count(2), 0);
        due(1, "count(3)", x.count(3), 0);
        due(1, "count(4), z", x.count(4), 1);
        due(1, "count(5)", x.count(5), 0);
        due(1, "told(0)", x.told(0), 2);
        due(1, "told(1)", x.told(1), 60);
        due(1, "told(2)", x.told(2), 999);
        for (int k = 0; k < 4; k++) {
            due(1, "told(10 + k)", x.told(10 + k), 6);
            due(1, "told(20 + k)", x.told(20 + k), 0);
            due(1, "told(30 + k)", x.told(30 + k), 0);
        }
        due(1, "status(-1)", x.status(-1), 0);
        due(1, "back()", x.back(), NONE);
        due(1, "drop()", x.drop(), NONE);
        x.add(0, 0, 1, 1, 0, -1);
        for (int k = 0; k < 4; k++) {
            due(1, "item on a sheet", x.item(k, 0), LONG_MISSING);
            due(1, "a shelf is for kind 0", x.lay(k, 5, 0), -1);
        }
        PaperForms y = new PaperForms();
        due(1, "another object has its own items", y.count(0), 0);
    }

    private static void items() {
        PaperForms x = new PaperForms();
        due(2, "least of all", x.add(0, 0, 1, 1, -32, -1), 0);
        due(2, "most of all", x.add(5, 3, 20, 12, 32, 3), 1);
        int[][] beyond = {
            {-1, 0, 1, 1, 0, 0}, {6, 0, 1, 1, 0, 0}, {0, -1, 1, 1, 0, 0}, {0, 4, 1, 1, 0, 0},
            {0, 0, 0, 1, 0, 0}, {0, 0, 21, 1, 0, 0}, {0, 0, 1, 0, 0, 0}, {0, 0, 1, 13, 0, 0},
            {0, 0, 1, 1, -33, 0}, {0, 0, 1, 1, 33, 0}, {0, 0, 1, 1, 0, -2}, {0, 0, 1, 1, 0, 4},
            {LEAST, LEAST, LEAST, LEAST, LEAST, LEAST}, {MOST, MOST, MOST, MOST, MOST, MOST}};
        for (int[] b : beyond) {
            due(2, "add beyond", x.add(b[0], b[1], b[2], b[3], b[4], b[5]), BEYOND);
        }
        due(2, "those added nothing", x.count(0), 2);
        for (int i = 2; i < 12; i++) {
            due(2, "add", x.add(i % 6, i % 4, i, i, i, i % 4), i);
        }
        due(2, "a 13th", x.add(0, 0, 1, 1, 0, 0), FULL);
        due(2, "a 13th, beyond", x.add(0, 0, 0, 1, 0, 0), BEYOND);
        due(2, "still 12", x.count(0), 12);

        int[] wanted = {5, 3, 20, 12, 32, 3, 0, 0};
        for (int what = 0; what < 8; what++) {
            due(3, "of(1, what)", x.of(1, what), wanted[what]);
        }
        int[] wantedOf7 = {1, 3, 7, 7, 7, 3, 0, 0};
        for (int what = 0; what < 8; what++) {
            due(3, "of(7, what)", x.of(7, what), wantedOf7[what]);
        }
        for (int what : new int[] {-1, 8, LEAST, MOST}) {
            due(3, "of(0, beyond)", x.of(0, what), BEYOND);
        }
        for (int item : new int[] {-1, 12, LEAST, MOST}) {
            due(3, "of(beyond, 0)", x.of(item, 0), BEYOND);
        }

        int[][] ranges = {{0, 5}, {0, 3}, {1, 20}, {1, 12}, {-32, 32}, {-1, 3}, {0, 999}};
        int[] before = {0, 0, 1, 1, -32, -1, 0};
        for (int what = 0; what < 7; what++) {
            due(4, "change to the most", x.change(0, what, ranges[what][1]), before[what]);
            due(4, "change to the least", x.change(0, what, ranges[what][0]), ranges[what][1]);
            due(4, "change below", x.change(0, what, ranges[what][0] - 1), BEYOND);
            due(4, "change above", x.change(0, what, ranges[what][1] + 1), BEYOND);
            due(4, "that changed nothing", x.of(0, what), ranges[what][0]);
            due(4, "nor another item", x.of(1, what), wanted[what]);
        }
        due(4, "change what -1", x.change(0, -1, 0), BEYOND);
        due(4, "change what 7", x.change(0, 7, 0), BEYOND);
        due(4, "change item -1", x.change(-1, 0, 0), BEYOND);
        due(4, "change item 12", x.change(12, 0, 0), BEYOND);

        for (int left = 11; left >= 0; left--) {
            due(5, "drop()", x.drop(), left);
            due(5, "it is gone", x.of(left, 0), BEYOND);
        }
        due(5, "drop() of nothing", x.drop(), NONE);
        due(5, "drop() of nothing", x.count(0), 0);
        due(5, "add after it", x.add(2, 1, 3, 4, 5, 2), 0);
        due(5, "a new one has its own facts", x.of(0, 0), 2);
    }

    private static void kindsAndEnemies() {
        PaperForms x = oneOfEachKind();
        boolean[][] isOf = {
            {true, false, false, false, false, false},
            {true, true, false, false, false, false},
            {true, false, true, false, false, false},
            {true, true, false, true, false, false},
            {true, false, true, false, true, false},
            {true, false, false, false, false, true}};
        for (int item = 0; item < 6; item++) {
            for (int kind = 0; kind < 6; kind++) {
                due(6, "as(" + item + ", " + kind + ")", x.as(item, kind), isOf[item][kind] ? 8 + item : KIND);
            }
        }
        due(6, "as(0, -1)", x.as(0, -1), BEYOND);
        due(6, "as(0, 6)", x.as(0, 6), BEYOND);
        due(6, "as(6, 0)", x.as(6, 0), BEYOND);
        due(6, "as(-1, 0)", x.as(-1, 0), BEYOND);

        due(7, "become", x.enemy(0, 5, true), 0);
        due(7, "already", x.enemy(0, 5, true), 1);
        due(7, "the other way round", x.enemy(5, 0, true), 1);
        due(7, "another two", x.enemy(5, 2, true), 0);
        due(7, "of(5, 7)", x.of(5, 7), 1 | 4);
        due(7, "of(0, 7)", x.of(0, 7), 32);
        due(7, "of(2, 7)", x.of(2, 7), 32);
        due(7, "of(1, 7)", x.of(1, 7), 0);
        due(7, "one and the same", x.enemy(3, 3, true), BEYOND);
        due(7, "one and the same, none", x.enemy(3, 3, false), BEYOND);
        due(7, "of(3, 7)", x.of(3, 7), 0);
        due(7, "none such", x.enemy(0, 6, true), BEYOND);
        due(7, "none such", x.enemy(6, 0, true), BEYOND);
        due(7, "none such", x.enemy(-1, 0, true), BEYOND);
        due(7, "none such", x.enemy(0, -1, true), BEYOND);
        due(7, "never were", x.enemy(3, 4, false), 0);
        due(7, "are no more", x.enemy(5, 0, false), 1);
        due(7, "of(0, 7) after", x.of(0, 7), 0);
        due(7, "of(5, 7) after", x.of(5, 7), 4);
        due(7, "are no more, again", x.enemy(0, 5, false), 0);
        due(5, "drop() takes its enemies", x.drop(), 5);
        due(5, "of(2, 7) after", x.of(2, 7), 0);
        due(5, "count(1) after", x.count(1), 0);
        x.enemy(0, 1, true);
        x.drop();
        due(5, "others stay enemies", x.count(1), 1);
        x.add(0, 0, 1, 1, 1, 1);
        due(5, "a new one has none", x.of(4, 7), 0);
        x.enemy(4, 0, true);
        x.change(4, 6, 7);
        x.drop();
        due(5, "nor has the other one", x.of(0, 7), 2);
        x.add(0, 0, 1, 1, 1, 1);
        due(5, "a new one in its place has none", x.of(4, 7), 0);
        due(5, "a new one in its place is not used", x.of(4, 6), 0);
    }

    private static void slopesTellsChances() {
        PaperForms x = oneOfEachKind();
        due(8, "slope 5/4", x.slope(0), bits(1.25f));
        for (int quarters = 1; quarters <= 12; quarters++) {
            x.change(0, 3, quarters);
            due(8, "slope", x.slope(0), bits(quarters / 4f));
        }
        due(8, "slope(-1)", x.slope(-1), BEYOND);
        due(8, "slope(6)", x.slope(6), BEYOND);
        x.change(0, 3, 5);

        for (int v = -64; v <= 64; v++) {
            x = oneOfEachKind();
            float s = 5 / 4f;
            float at = s * (v / 8f - 3 / 8f);
            double size = at < 0 ? -at : at;
            double p = 0.5 + 0.5 * at / (1.0 + size);
            double plain = (double) s * (double) s * p * (1.0 - p);
            due(9, "ITEM tells at " + v, x.tells(0, v), bits(plain));
            due(9, "OPEN tells at " + v, x.tells(1, v), bits(plain * 1.25));
            due(9, "CHOICE tells at " + v, x.tells(2, v), bits(plain * p));
            due(9, "LONG tells at " + v, x.tells(3, v), bits(plain * 1.25 + 11 / 64.0));
            due(9, "PAIR tells at " + v, x.tells(4, v), bits((double) ((float) (plain * p) * 0.3f)));
            due(9, "ESSAY tells at " + v, x.tells(5, v), bits(13 / 16.0 + size % 0.75 / 4.0));
            for (int item = 0; item < 6; item++) {
                due(10, "chance at " + v, x.chance(item, v), bits(p));
            }
        }
        due(10, "chance at its level", x.chance(0, 3), bits(0.5));
        for (int v : new int[] {-65, 65, LEAST, MOST}) {
            due(9, "tells(0, " + v + ")", x.tells(0, v), LONG_BEYOND);
            due(10, "chance(0, " + v + ")", x.chance(0, v), LONG_BEYOND);
        }
        for (int item : new int[] {-1, 6, LEAST, MOST}) {
            due(9, "tells(" + item + ", 0)", x.tells(item, 0), LONG_BEYOND);
            due(10, "chance(" + item + ", 0)", x.chance(item, 0), LONG_BEYOND);
        }
    }

    private static void values() {
        PaperForms x = oneOfEachKind();
        due(12, "without weights", x.value(63), 0);
        due(11, "aim", x.aim(0, 5, 7), 0);
        due(11, "aim", x.aim(1, -64, 9), 0);
        due(11, "aim", x.aim(3, 64, 1), 0);
        due(11, "aim again", x.aim(3, -20, 2), 1);
        due(11, "told(20)", x.told(20), 5);
        due(11, "told(21)", x.told(21), -64);
        due(11, "told(23)", x.told(23), -20);
        due(11, "told(33)", x.told(33), 2);
        int[][] beyond = {{-1, 0, 0}, {4, 0, 0}, {2, -65, 0}, {2, 65, 0}, {2, 0, -1}, {2, 0, 10}, {MOST, 0, 0}};
        for (int[] b : beyond) {
            due(11, "aim beyond", x.aim(b[0], b[1], b[2]), BEYOND);
        }
        due(11, "that aimed nothing", x.told(22) + x.told(32), 0);
        due(11, "to no weight", x.aim(3, -20, 0), 2);
        due(11, "from no weight", x.aim(3, -20, 2), 0);

        int[][] aims = {{5, 7}, {-64, 9}, {0, 0}, {-20, 2}};
        for (int set = 0; set < 64; set++) {
            double value = 0.0;
            PaperForms y = oneOfEachKind();
            for (int[] aim : aims) {
                for (int item = 0; item < 6; item++) {
                    if ((set & 1 << item) != 0) {
                        value += Double.longBitsToDouble(y.tells(item, aim[0])) * (aim[1] * 0.1f);
                    }
                }
            }
            due(12, "value(" + set + ")", x.value(set), bits(value));
            due(13, "worth(" + set + ")", x.worth(set), (int) (value * 1000.0));
        }
        for (int set : new int[] {64, 65, -1, LEAST, MOST}) {
            due(12, "value(" + set + ")", x.value(set), LONG_BEYOND);
            due(13, "worth(" + set + ")", x.worth(set), BEYOND);
        }
        PaperForms empty = new PaperForms();
        due(12, "value(0) of nothing", empty.value(0), 0);
        due(12, "value(1) of nothing", empty.value(1), LONG_BEYOND);
        PaperForms first = graded();
        due(13, "at once", first.worth(63), (int) ((1 + 2 + 3 + 4 + 5 + 6) / 16.0 * (5 * 0.1f) * 1000.0));
        first.aim(0, 0, 2);
        due(13, "at once after a change", first.worth(32), (int) (6 / 16.0 * (2 * 0.1f) * 1000.0));
        due(13, "worth(0) of nothing", empty.worth(0), 0);
        due(13, "worth(1) of nothing", empty.worth(1), BEYOND);
    }

    private static void peaks() {
        PaperForms x = new PaperForms();
        x.add(0, 0, 1, 12, 16, -1);
        x.add(0, 0, 1, 8, -16, -1);
        due(14, "the first alone", x.peak(1, -64, 64), 16);
        due(14, "the other alone", x.peak(2, -64, 64), -16);
        due(14, "both", x.peak(3, -64, 64), 16);
        due(14, "both, as far as 0", x.peak(3, -64, 0), -16);
        due(14, "rising to the edge", x.peak(1, -20, -3), -3);
        due(14, "falling from the edge", x.peak(1, 20, 64), 20);
        due(14, "next to from", x.peak(1, 15, 64), 16);
        due(14, "at to", x.peak(1, -64, 16), 16);
        due(14, "one ability alone", x.peak(3, 7, 7), 7);
        due(14, "of like ones the least", x.peak(0, -5, 5), -5);
        x.add(0, 0, 1, 12, -16, -1);
        due(14, "two like peaks", x.peak(5, -64, 64), -16);
        due(14, "two like peaks", x.peak(5, -15, 64), 16);
        due(14, "from above to", x.peak(1, 3, 2), BEYOND);
        due(14, "from beyond", x.peak(1, -65, 2), BEYOND);
        due(14, "to beyond", x.peak(1, 0, 65), BEYOND);
        due(14, "from and to beyond", x.peak(1, 65, 66), BEYOND);
        due(14, "set beyond", x.peak(8, 0, 1), BEYOND);
        due(14, "set below 0", x.peak(-1, 0, 1), BEYOND);
    }

    private static void blueprint() {
        PaperForms x = new PaperForms();
        due(15, "topic", x.topic(2, 1, 4), 6);
        due(15, "topic again", x.topic(2, 6, 6), 14);
        due(15, "topic again", x.topic(2, 0, 0), 66);
        due(15, "another one", x.topic(3, 2, 3), 6);
        due(17, "told(12)", x.told(12), 0);
        due(17, "told(13)", x.told(13), 23);
        int[][] beyond = {{-1, 0, 1}, {4, 0, 1}, {0, -1, 1}, {0, 7, 7}, {0, 0, 7}, {0, 3, 2}, {0, -2, -1}, {0, 0, -1}};
        for (int[] b : beyond) {
            due(15, "topic beyond", x.topic(b[0], b[1], b[2]), BEYOND);
        }
        due(15, "those changed nothing", x.told(10), 6);

        due(16, "SIZE", x.rule(0, 1), 2);
        due(16, "SIZE", x.rule(0, 6), 1);
        due(16, "LONGEST", x.rule(1, 0), 60);
        due(16, "LONGEST", x.rule(1, 240), 0);
        due(16, "EXPOSED", x.rule(2, 0), 999);
        due(16, "EXPOSED", x.rule(2, 999), 0);
        due(16, "SIZE 0", x.rule(0, 0), BEYOND);
        due(16, "SIZE 7", x.rule(0, 7), BEYOND);
        due(16, "LONGEST -1", x.rule(1, -1), BEYOND);
        due(16, "LONGEST 241", x.rule(1, 241), BEYOND);
        due(16, "EXPOSED -1", x.rule(2, -1), BEYOND);
        due(16, "EXPOSED 1000", x.rule(2, 1000), BEYOND);
        due(16, "what -1", x.rule(-1, 1), BEYOND);
        due(16, "what 3", x.rule(3, 1), BEYOND);
        x.rule(2, 5);
        due(17, "told(0)", x.told(0), 6);
        due(17, "told(1)", x.told(1), 240);
        due(17, "told(2)", x.told(2), 5);
        for (int k = 0; k < 4; k++) {
            x.aim(k, k - 9, k + 2);
            due(17, "told(20 and k)", x.told(20 + k), k - 9);
            due(17, "told(30 and k)", x.told(30 + k), k + 2);
        }
        for (int what : new int[] {-1, 3, 9, 14, 19, 24, 29, 34, 100, LEAST, MOST}) {
            due(17, "told(" + what + ")", x.told(what), BEYOND);
        }
    }

    private static void rulesOneByOne() {
        PaperForms x = bankOf(6);
        due(18, "a paper", x.against(3), 0);
        due(18, "too many", x.against(7), 1);
        due(18, "too few", x.against(4), 1);
        due(18, "nothing", x.against(0), 1);
        x.topic(0, 1, 1);
        due(18, "topic 0 once", x.against(3), 0);
        due(18, "topic 0 never", x.against(6), 2);
        due(18, "topic 0 twice", x.against(1 | 16), 2);
        x.topic(0, 0, 6);
        x.topic(3, 0, 0);
        due(18, "topic 3 once", x.against(9), 2);
        x.topic(3, 0, 6);
        x.rule(1, 20);
        due(18, "just as long", x.against(3), 0);
        x.rule(1, 19);
        due(18, "too long", x.against(3), 3);
        x.rule(1, 60);
        x.enemy(1, 2, true);
        due(18, "enemies", x.against(6), 4);
        due(18, "an enemy of another one", x.against(3), 0);
        x.enemy(1, 2, false);
        x.change(0, 5, 2);
        due(18, "a text of just one", x.against(3), 5);
        x.change(1, 5, 2);
        due(18, "a text of both", x.against(3), 0);
        x.change(1, 5, 3);
        due(18, "two texts", x.against(3), 5);
        x.change(0, 5, -1);
        x.change(1, 5, 0);
        due(18, "text 0 of just one", x.against(3), 5);
        x.change(1, 5, -1);
        x.rule(2, 5);
        x.change(1, 6, 4);
        due(18, "used less", x.against(3), 0);
        x.change(1, 6, 5);
        due(18, "used as often", x.against(3), 6);
        x.change(1, 6, 6);
        due(18, "used more often", x.against(3), 6);

        // All rules broken, mended one after the other: the least one is told.
        x.rule(0, 3);
        x.topic(0, 2, 3);
        x.rule(1, 5);
        x.enemy(0, 1, true);
        x.change(0, 5, 1);
        due(18, "all broken", x.against(3), 1);
        x.rule(0, 2);
        due(18, "all but 1", x.against(3), 2);
        x.topic(0, 0, 3);
        due(18, "all but 1, 2", x.against(3), 3);
        x.rule(1, 60);
        due(18, "4, 5, 6", x.against(3), 4);
        x.enemy(0, 1, false);
        due(18, "5, 6", x.against(3), 5);
        x.change(0, 5, -1);
        due(18, "6", x.against(3), 6);
        x.rule(2, 7);
        due(18, "none", x.against(3), 0);
        for (int set : new int[] {64, -1, LEAST, MOST}) {
            due(18, "against(" + set + ")", x.against(set), BEYOND);
        }
    }

    private static void papersAndWithout() {
        PaperForms x = bankOf(12);
        due(19, "twos of 12", x.papers(), 66);
        x.rule(0, 6);
        due(19, "sixes of 12", x.papers(), 924);
        due(20, "no SIZE: all of 6 or less, by LONGEST", x.without(1), 1 + 12 + 66 + 220 + 495 + 792 + 924);
        x.rule(1, 50);
        due(19, "too long, all", x.papers(), 0);
        due(20, "no LONGEST", x.without(3), 924);
        due(20, "no TOPICS", x.without(2), 0);
        x.rule(1, 240);
        x.topic(0, 3, 6);
        due(19, "all of topic 0", x.papers(), 84);
        due(20, "no TOPICS", x.without(2), 924);
        due(20, "no LONGEST", x.without(3), 84);
        x.topic(0, 0, 6);
        x.rule(0, 2);
        x.enemy(0, 1, true);
        x.enemy(0, 2, true);
        due(19, "but for two", x.papers(), 64);
        due(20, "no ENEMIES", x.without(4), 66);
        due(20, "no TEXTS", x.without(5), 64);
        x.change(5, 5, 0);
        x.change(6, 5, 0);
        due(19, "5 and 6 only together", x.papers(), 10 * 9 / 2 - 2 + 1);
        due(20, "no TEXTS", x.without(5), 64);
        due(20, "no EXPOSED", x.without(6), 10 * 9 / 2 - 2 + 1);
        x.rule(2, 1);
        x.change(11, 6, 1);
        due(19, "11 is worn", x.papers(), 9 * 8 / 2 - 2 + 1);
        due(20, "no EXPOSED", x.without(6), 10 * 9 / 2 - 2 + 1);
        x.rule(2, 0);
        due(19, "all are worn", x.papers(), 0);
        due(20, "nothing is no paper, but for SIZE", x.without(1), 1);
        for (int rule : new int[] {0, 7, -1, LEAST, MOST}) {
            due(20, "without(" + rule + ")", x.without(rule), BEYOND);
        }
        PaperForms none = new PaperForms();
        due(19, "of no items", none.papers(), 0);
        due(20, "of no items, no SIZE", none.without(1), 1);
        PaperForms y = bankOf(4);
        y.change(0, 1, 1);
        y.topic(0, 1, 6);
        due(20, "at once", y.without(1), 0);
        due(20, "at once", y.without(2), 6);
        y.change(0, 1, 0);
        due(20, "at once after a change", y.without(1), 8);
    }

    /** Items 0 to 5, all essays, which tell MINUTES / 16 at their level: 1 to 6 of it. */
    private static PaperForms graded() {
        PaperForms x = new PaperForms();
        for (int i = 0; i < 6; i++) {
            x.add(5, 0, i + 1, 4, 0, -1);
        }
        x.aim(0, 0, 5);
        return x;
    }

    private static void bestAndRank() {
        PaperForms x = graded();
        due(21, "the two greatest", x.best(), 48);
        x.enemy(4, 5, true);
        due(21, "if they are enemies", x.best(), 8 | 32);
        x.change(2, 2, 4);
        due(21, "of like ones the least set", x.best(), 4 | 32);
        x.rule(2, 0);
        due(21, "no paper", x.best(), NONE);
        due(21, "no paper of no items", new PaperForms().best(), NONE);
        due(21, "without weights the least", bankOf(12).best(), 3);
        PaperForms y = graded();
        y.rule(2, 5);
        y.change(5, 6, 5);
        due(21, "at once: 5 is worn", y.best(), 24);
        y.change(4, 1, 1);
        y.topic(1, 0, 0);
        due(21, "at once: 4 is of a topic that can't be", y.best(), 12);
        due(22, "at once", y.rank(3), 5);
        y.change(4, 1, 0);
        due(22, "at once after a change", y.rank(3), 9);
        // Rounding counts: sums of eighths by 0.1f in the order of aims, then items.
        PaperForms many = graded();
        many.aim(1, 3, 9);
        many.aim(2, -7, 4);
        int best = -1;
        for (int set = 0; set < 64; set++) {
            if (Integer.bitCount(set) == 2 && (best < 0
                    || Double.longBitsToDouble(many.value(set)) > Double.longBitsToDouble(many.value(best)))) {
                best = set;
            }
        }
        due(21, "three aims", many.best(), best);

        x = graded();
        due(22, "of the best", x.rank(48), 0);
        due(22, "of the second", x.rank(8 | 32), 1);
        // 5 + 4 and 6 + 3 are alike, and neither is better than the other.
        due(22, "of like ones", x.rank(8 | 16), 2);
        due(22, "of like ones", x.rank(4 | 32), 2);
        due(22, "of the least", x.rank(3), 14);
        due(22, "of nothing, which is no paper", x.rank(0), 15);
        due(22, "of all, which is no paper", x.rank(63), 0);
        for (int set : new int[] {64, -1, LEAST, MOST}) {
            due(22, "rank(" + set + ")", x.rank(set), BEYOND);
        }
    }

    private static void swaps() {
        PaperForms x = graded();
        due(23, "for the lesser", x.swap(3, 0), 5);
        due(23, "for the other", x.swap(3, 1), 5);
        due(23, "of the best", x.swap(48, 5), 3);
        x.change(1, 2, 4);
        due(23, "of like ones the least", x.swap(48, 5), 1);
        x.enemy(1, 4, true);
        due(23, "it must make a paper", x.swap(48, 5), 3);
        due(23, "the ITEM isn't of it", x.swap(48, 0), KIND);
        due(23, "no paper", x.swap(7, 0), STATE);
        due(23, "no paper, and not of it", x.swap(7, 5), STATE);
        due(23, "no such set", x.swap(64, 0), BEYOND);
        due(23, "no such set", x.swap(-1, 0), BEYOND);
        due(23, "no such item", x.swap(3, 6), BEYOND);
        due(23, "no such item", x.swap(3, -1), BEYOND);
        due(23, "no such item, and no paper", x.swap(7, 6), BEYOND);
        x.rule(1, 2 + 4);
        x.change(2, 2, 20);
        due(23, "there is none", x.swap(3, 0), NONE);
        due(23, "it stays a paper", x.against(3), 0);
        PaperForms two = bankOf(2);
        due(23, "no other item", two.swap(3, 0), NONE);
        PaperForms three = bankOf(3);
        due(23, "item 0", three.swap(6, 1), 0);
        three.change(0, 5, 1);
        due(23, "at once: its text would stand alone", three.swap(6, 1), NONE);
        PaperForms y = graded();
        y.rule(0, 3);
        due(23, "three", y.swap(7, 1), 5);
        y.topic(0, 0, 0);
        y.change(5, 1, 1);
        due(23, "no paper", y.swap(7, 1), STATE);
    }

    private static void formsAndGaps() {
        PaperForms x = graded();
        // Of 1 to 6 twos: 6 + 3 and 5 + 4 both are 9, as good as can be.
        due(24, "FIRST", x.forms(0), 8 | 16);
        due(24, "SECOND", x.forms(1), 4 | 32);
        due(25, "GAP", x.gap(), bits(value(x, 8 | 16) > value(x, 4 | 32)
                ? value(x, 8 | 16) - value(x, 4 | 32) : value(x, 4 | 32) - value(x, 8 | 16)));
        x.change(5, 2, 20);
        due(24, "FIRST", x.forms(0), 8 | 16);
        due(24, "SECOND, the least of like ones", x.forms(1), 1 | 32);
        due(25, "GAP", x.gap(), bits(value(x, 1 | 32) - value(x, 8 | 16)));
        due(24, "forms(-1)", x.forms(-1), BEYOND);
        due(24, "forms(2)", x.forms(2), BEYOND);
        PaperForms like = bankOf(12);
        due(24, "without weights FIRST", like.forms(0), 3);
        due(24, "without weights SECOND", like.forms(1), 12);
        due(25, "without weights", like.gap(), 0);
        like.rule(0, 6);
        due(24, "halves", like.forms(0), 63);
        due(24, "halves", like.forms(1), 63 << 6);
        PaperForms one = bankOf(1);
        one.rule(0, 1);
        due(24, "one paper, no other one", one.forms(0), NONE);
        due(25, "one paper, no other one", one.gap(), LONG_NONE);
        PaperForms few = bankOf(3);
        PaperForms ones = graded();
        ones.rule(0, 1);
        ones.change(0, 2, 20);
        ones.change(2, 2, 6);
        due(24, "of like ones the least FIRST", ones.forms(0), 1);
        due(24, "of like ones the least SECOND", ones.forms(1), 4);
        ones.change(3, 2, 20);
        ones.change(4, 2, 20);
        due(24, "two of three like ones", ones.forms(0), 1);
        due(24, "two of three like ones", ones.forms(1), 8);
        due(24, "too few for two", few.forms(0), NONE);
        due(24, "too few for two", few.forms(1), NONE);
        due(24, "too few for two, beyond", few.forms(2), BEYOND);
        due(25, "too few for two", few.gap(), LONG_NONE);
        due(25, "no items", new PaperForms().gap(), LONG_NONE);
    }

    private static double value(PaperForms x, int set) {
        return Double.longBitsToDouble(x.value(set));
    }

    private static void useAndUses() {
        PaperForms x = graded();
        x.rule(2, 2);
        due(26, "use", x.use(3), 0);
        due(26, "of(0, 6)", x.of(0, 6), 1);
        due(26, "of(1, 6)", x.of(1, 6), 1);
        due(26, "of(2, 6)", x.of(2, 6), 0);
        due(26, "use of one of them", x.use(5), 1);
        due(26, "now it is no paper", x.use(3), STATE);
        due(26, "use of another one: all that are worn", x.use(2 | 8), 2);
        due(26, "use of what is no paper", x.use(7), STATE);
        due(26, "use(64)", x.use(64), BEYOND);
        due(26, "use(-1)", x.use(-1), BEYOND);
        due(26, "those used nothing", x.count(2), 6);
        x = graded();
        x.change(0, 6, 998);
        due(26, "up to 999", x.use(3), 1);
        due(26, "up to 999", x.of(0, 6), 999);
        due(26, "no more", x.use(3), STATE);

        x = graded();
        x.rule(2, 3);
        due(27, "as often as asked", x.uses(2), 2);
        due(27, "the best was used", x.of(5, 6), 2);
        due(27, "the best was used", x.of(4, 6), 2);
        due(27, "as long as there is one", x.uses(20), 7);
        due(27, "all are used up", x.count(2), 18);
        due(27, "none is left", x.uses(1), 0);
        due(27, "that is no finding", x.status(-1), 0);
        for (int n : new int[] {0, 21, -1, LEAST, MOST}) {
            due(27, "uses(" + n + ")", x.uses(n), BEYOND);
        }
        x = graded();
        x.rule(2, 2);
        x.change(5, 6, 1);
        due(27, "the best changes", x.uses(2), 2);
        due(27, "first 5 and 4", x.of(5, 6), 2);
        due(27, "then 4 and 3", x.of(4, 6), 2);
        due(27, "then 4 and 3", x.of(3, 6), 1);
    }

    private static void looseAndSeed() {
        PaperForms x = new PaperForms();
        due(29, "seed", x.seed(-5), 1);
        due(29, "seed", x.seed(LEAST), -5);
        due(29, "seed", x.seed(MOST), LEAST);
        due(29, "seed", x.seed(77), MOST);
        due(29, "count(4)", x.count(4), 77);

        int z = 77;
        z = z * 1103515245 + 12345;
        z = z * 1103515245 + 12345;
        due(28, "no items, no paper", x.loose(1), 0);
        due(28, "two draws all the same", x.count(4), z);
        for (int n : new int[] {0, 21, -1, LEAST, MOST}) {
            due(28, "loose(" + n + ")", x.loose(n), BEYOND);
        }
        due(28, "those drew nothing", x.count(4), z);

        x = graded();
        PaperForms y = graded();
        x.rule(0, 3);
        x.seed(12);
        z = 12;
        int[] used = new int[6];
        int often = 0;
        for (int i = 0; i < 20; i++) {
            z = z * 1103515245 + 12345;
            int first = (z >>> 8) % 4096 & 63;
            z = z * 1103515245 + 12345;
            int second = (z >>> 8) % 4096 & 63;
            boolean one = Integer.bitCount(first) == 3;
            boolean other = Integer.bitCount(second) == 3;
            int chosen = one && (!other || value(y, first) >= value(y, second)) ? first : other ? second : 0;
            often += one || other ? 1 : 0;
            for (int item = 0; item < 6; item++) {
                used[item] += chosen >> item & 1;
            }
        }
        due(28, "loose(20)", x.loose(20), often);
        due(28, "z after it", x.count(4), z);
        for (int item = 0; item < 6; item++) {
            due(28, "USED of " + item, x.of(item, 6), used[item]);
        }
        x.rule(2, 0);
        due(28, "nothing is a paper", x.loose(20), 0);
        bothDrawn(bankOf(6));
        bothDrawn(graded());
    }

    /** Of two papers drawn the greater one is used; without weights all are alike. */
    private static void bothDrawn(PaperForms x) {
        x.rule(0, 3);
        PaperForms y = graded();
        if (x.told(30) == 0) {
            y.aim(0, 0, 0);
        }
        for (int seed = 0; seed < 200; seed++) {
            int z = seed * 1103515245 + 12345;
            int first = (z >>> 8) % 4096 & 63;
            z = z * 1103515245 + 12345;
            int second = (z >>> 8) % 4096 & 63;
            if (first != second && Integer.bitCount(first) == 3 && Integer.bitCount(second) == 3) {
                x.image();
                x.seed(seed);
                int chosen = value(y, second) > value(y, first) ? second : first;
                due(28, "both are papers", x.loose(1), 1);
                for (int item = 0; item < 6; item++) {
                    due(28, "the greater, or the first", x.of(item, 6), chosen >> item & 1);
                }
                x.back();
            }
        }
        x.rule(2, 0);
        due(28, "nothing is a paper", x.loose(20), 0);
    }

    private static void shelves() {
        PaperForms y = new PaperForms();
        y.add(4, 0, 1, 1, 1, 1);
        y.add(3, 0, 1, 1, 1, 1);
        for (int shelf = 0; shelf < 4; shelf++) {
            due(30, "shelf " + shelf, y.shelf(shelf, 1), shelf == 3 ? 1 : 0);
            due(31, "lay on " + shelf, y.lay(shelf, 0, 0), KIND);
            due(31, "lay on " + shelf, y.lay(shelf, 0, 1), -1);
            due(32, "its number", y.stands(shelf, 0, 0), 1);
            due(32, "its kind", y.stands(shelf, 0, 1), 3);
            due(33, "from " + shelf + " to 3", y.moves(shelf, 3), 6);
            due(33, "from 3 to " + shelf, y.moves(3, shelf), 6);
        }
        PaperForms x = oneOfEachKind();
        for (int kind = 0; kind < 6; kind++) {
            due(30, "shelf for kind " + kind, x.shelf(1, kind), 0);
            int stood = 0;
            for (int item = 0; item < 6; item++) {
                boolean fits = x.as(item, kind) != KIND;
                due(31, "lay on kind " + kind, x.lay(1, item, item), fits ? -1 : KIND);
                due(32, "number", x.stands(1, item, 0), fits ? item : MISSING);
                due(32, "kind", x.stands(1, item, 1), fits ? item : MISSING);
                stood += fits ? 1 : 0;
            }
            due(30, "how many stood there", x.shelf(1, kind), stood);
            due(30, "it is empty", x.stands(1, kind, 0), MISSING);
        }
        x.shelf(1, 0);
        x.lay(1, 2, 3);
        due(31, "what stood there", x.lay(1, 2, 5), 3);
        due(31, "item 0 stood there", x.lay(1, 2, 0), 5);
        due(31, "item 0 stood there", x.lay(1, 2, 3), 0);
        x.change(3, 0, 5);
        due(32, "the kind that it was", x.stands(1, 2, 1), 3);
        x.drop();
        x.drop();
        x.drop();
        due(32, "the number it had", x.stands(1, 2, 0), 3);
        due(32, "the kind it had", x.stands(1, 2, 1), 3);
        due(31, "no such item any more", x.lay(1, 0, 3), BEYOND);
        due(30, "shelf(-1, 0)", x.shelf(-1, 0), BEYOND);
        due(30, "shelf(4, 0)", x.shelf(4, 0), BEYOND);
        due(30, "shelf(1, -1)", x.shelf(1, -1), BEYOND);
        due(30, "shelf(1, 6)", x.shelf(1, 6), BEYOND);
        due(30, "those emptied nothing", x.count(5), 1);
        due(31, "lay(-1, 0, 0)", x.lay(-1, 0, 0), BEYOND);
        due(31, "lay(4, 0, 0)", x.lay(4, 0, 0), BEYOND);
        due(31, "lay(0, -1, 0)", x.lay(0, -1, 0), BEYOND);
        due(31, "lay(0, 6, 0)", x.lay(0, 6, 0), BEYOND);
        due(31, "lay(0, 0, -1)", x.lay(0, 0, -1), BEYOND);
        due(32, "stands(-1, 0, 0)", x.stands(-1, 0, 0), BEYOND);
        due(32, "stands(4, 0, 0)", x.stands(4, 0, 0), BEYOND);
        due(32, "stands(1, -1, 0)", x.stands(1, -1, 0), BEYOND);
        due(32, "stands(1, 6, 0)", x.stands(1, 6, 0), BEYOND);
        due(32, "stands(1, 2, -1)", x.stands(1, 2, -1), BEYOND);
        due(32, "stands(1, 2, 2)", x.stands(1, 2, 2), BEYOND);
        x.shelf(2, 5);
        due(31, "what can't stand there leaves what stands", x.lay(2, 0, 0), KIND);
    }

    private static void moving() {
        PaperForms x = oneOfEachKind();
        x.lay(0, 0, 1);
        x.lay(0, 1, 3);
        x.lay(0, 3, 0);
        x.lay(0, 4, 1);
        x.shelf(1, 1);
        x.lay(1, 2, 3);
        x.lay(1, 3, 1);
        x.lay(1, 4, 3);
        due(33, "as far as it can stand", x.moves(0, 1), 3);
        due(33, "place 0", x.stands(1, 0, 0), 1);
        due(33, "place 1", x.stands(1, 1, 1), 3);
        due(33, "nothing came as nothing", x.stands(1, 2, 0), MISSING);
        due(33, "place 3 stays", x.stands(1, 3, 0), 1);
        due(33, "place 4 stays", x.stands(1, 4, 0), 3);
        due(33, "all stays where it was, too", x.stands(0, 0, 0), 1);
        due(33, "all six", x.moves(1, 0), 6);
        due(33, "place 4", x.stands(0, 4, 1), 3);
        due(33, "the same", x.moves(1, 1), 6);
        due(33, "the same", x.stands(1, 4, 0), 3);
        due(33, "nothing at all", x.moves(3, 1), 6);
        due(33, "nothing stands there", x.shelf(1, 1), 0);
        x.change(1, 0, 5);
        due(33, "as the kind that it was", x.moves(0, 1), 6);
        due(33, "moves(-1, 0)", x.moves(-1, 0), BEYOND);
        due(33, "moves(4, 0)", x.moves(4, 0), BEYOND);
        due(33, "moves(0, -1)", x.moves(0, -1), BEYOND);
        due(33, "moves(0, 4)", x.moves(0, 4), BEYOND);
    }

    private static void sheets() {
        PaperForms x = new PaperForms();
        due(34, "0 numbers", x.sheet(0, 0, 0), 0);
        due(36, "it has none", x.item(0, 0), LONG_BEYOND);
        due(34, "40 numbers", x.sheet(0, 0, 40), 40);
        due(36, "number 39", x.item(0, 39), 0);
        due(36, "number 40", x.item(0, 40), LONG_BEYOND);
        due(34, "41 numbers", x.sheet(0, 0, 41), BEYOND);
        due(34, "-1 numbers", x.sheet(0, 0, -1), SIZE);
        due(34, "least", x.sheet(0, 2, LEAST), SIZE);
        due(34, "most", x.sheet(0, 2, MOST), BEYOND);
        due(34, "sort 3", x.sheet(0, 3, -1), BEYOND);
        due(34, "sort -2", x.sheet(0, -2, 1), BEYOND);
        due(34, "sheet -1", x.sheet(-1, 0, -1), BEYOND);
        due(34, "sheet 4", x.sheet(4, 0, 1), BEYOND);
        due(34, "those changed nothing", x.item(0, 39), 0);
        due(35, "ints", x.write(0, 39, -77), 1);
        due(36, "ints", x.item(0, 39), -77);
        due(34, "anew", x.sheet(0, 0, 40), 40);
        due(34, "all 0", x.item(0, 39), 0);
        for (int sort = 0; sort < 3; sort++) {
            x.write(0, 0, 5);
            x.sheet(0, sort, 40);
            due(34, "all 0", x.item(0, 0), 0);
        }
        x.sheet(0, 0, 40);

        x.sheet(1, 1, 3);
        x.sheet(2, 2, 3);
        for (int v : new int[] {0, 1, -1, 8, 5, -13, 16777217, 16777219, -123456789, LEAST, MOST}) {
            due(35, "ints", x.write(0, 1, v), 1);
            due(35, "floats", x.write(1, 1, v), 1);
            due(35, "doubles", x.write(2, 1, v), 1);
            due(36, "ints", x.item(0, 1), v);
            due(36, "floats", x.item(1, 1), bits(v / 8f));
            due(36, "doubles", x.item(2, 1), bits(v / 8.0));
        }
        due(35, "its neighbour stays", x.item(2, 0), 0);
        due(35, "its neighbour stays", x.item(2, 2), 0);
        for (int s : new int[] {-1, 4, LEAST, MOST}) {
            due(35, "no such sheet", x.write(s, 0, 1), BEYOND);
            due(36, "no such sheet", x.item(s, 0), LONG_BEYOND);
        }
        due(35, "missing", x.write(3, -1, 1), MISSING);
        due(36, "missing", x.item(3, -1), LONG_MISSING);
        for (int i : new int[] {-1, 3, LEAST, MOST}) {
            due(35, "no such number", x.write(2, i, 1), BEYOND);
            due(36, "no such number", x.item(2, i), LONG_BEYOND);
        }
        due(34, "missing again, n doesn't count", x.sheet(2, -1, -9), 0);
        due(34, "missing again, n doesn't count", x.sheet(1, -1, 99), 0);
        due(34, "it is missing", x.item(2, 0), LONG_MISSING);
    }

    private static void copying() {
        for (int sort = 0; sort < 3; sort++) {
            PaperForms x = new PaperForms();
            x.sheet(0, sort, 6);
            x.sheet(1, sort, 4);
            x.sheet(2, (sort + 1) % 3, 6);
            for (int i = 0; i < 6; i++) {
                x.write(0, i, i + 1);
            }
            long[] was = new long[6];
            for (int i = 0; i < 6; i++) {
                was[i] = x.item(0, i);
            }
            due(37, "onto itself, upwards", x.copy(0, 0, 0, 2, 4), 4);
            for (int i = 0; i < 6; i++) {
                due(37, "as they all were", x.item(0, i), was[i < 2 ? i : i - 2]);
            }
            due(37, "onto itself, downwards", x.copy(0, 2, 0, 1, 4), 4);
            long[] now = {was[0], was[0], was[1], was[2], was[3], was[3]};
            for (int i = 0; i < 6; i++) {
                due(37, "as they all were", x.item(0, i), now[i]);
            }
            due(37, "to another one", x.copy(0, 3, 1, 1, 3), 3);
            due(37, "number 0 stays", x.item(1, 0), 0);
            for (int i = 0; i < 3; i++) {
                due(37, "came", x.item(1, 1 + i), now[3 + i]);
            }
            due(37, "none", x.copy(0, 6, 1, 4, 0), 0);
            due(37, "too many for the first", x.copy(0, 4, 1, 0, 3), BEYOND);
            due(37, "too many for the second", x.copy(0, 0, 1, 2, 3), BEYOND);
            due(37, "behind the end", x.copy(0, 7, 1, 0, 0), BEYOND);
            due(37, "behind the end", x.copy(0, 0, 1, 5, 0), BEYOND);
            due(37, "i below 0", x.copy(0, -1, 1, 0, 1), BEYOND);
            due(37, "j below 0", x.copy(0, 0, 1, -1, 1), BEYOND);
            due(37, "n below 0", x.copy(0, 0, 1, 0, -1), BEYOND);
            due(37, "far beyond", x.copy(0, MOST, 1, 0, MOST), BEYOND);
            due(37, "far beyond", x.copy(0, 1, 1, 1, MOST), BEYOND);
            due(37, "unlike sorts", x.copy(0, 0, 2, 0, 1), KIND);
            due(37, "unlike sorts, and beyond", x.copy(0, -1, 2, 0, 1), KIND);
            due(37, "missing", x.copy(0, -1, 3, 0, 1), MISSING);
            due(37, "missing", x.copy(3, 0, 0, 0, 1), MISSING);
            due(37, "no such sheet", x.copy(3, 0, 4, 0, 1), BEYOND);
            due(37, "no such sheet", x.copy(-1, 0, 3, 0, 1), BEYOND);
            due(37, "number 0 stays", x.item(1, 0), 0);
        }
    }

    private static void casting() {
        PaperForms x = new PaperForms();
        int[] ints = {16777217, 16777219, MOST, LEAST, -7, 0};
        for (int sort = 0; sort < 3; sort++) {
            x.sheet(sort, sort, 6);
        }
        for (int i = 0; i < 6; i++) {
            x.write(0, i, ints[i]);
        }
        due(38, "ints to floats", x.casts(0, 1), 6);
        due(38, "ints to doubles", x.casts(0, 2), 6);
        for (int i = 0; i < 6; i++) {
            due(38, "float", x.item(1, i), bits((float) ints[i]));
            due(38, "double", x.item(2, i), bits((double) ints[i]));
        }
        due(38, "floats to ints", x.casts(1, 0), 6);
        for (int i = 0; i < 6; i++) {
            due(38, "int", x.item(0, i), (int) (float) ints[i]);
        }
        due(38, "doubles to ints", x.casts(2, 0), 6);
        for (int i = 0; i < 6; i++) {
            due(38, "int", x.item(0, i), ints[i]);
        }
        due(38, "the same", x.casts(2, 2), 6);
        for (int i = 0; i < 6; i++) {
            x.write(2, i, ints[i]);
        }
        x.sheet(1, 1, 4);
        due(38, "doubles to fewer floats", x.casts(2, 1), 4);
        for (int i = 0; i < 4; i++) {
            due(38, "float", x.item(1, i), bits((float) (ints[i] / 8.0)));
        }
        x.write(0, 4, 44);
        due(38, "floats to more ints", x.casts(1, 0), 4);
        due(38, "the others stay", x.item(0, 4), 44);
        x.write(1, 0, -15);
        x.write(1, 1, 15);
        x.casts(1, 0);
        due(38, "cut", x.item(0, 0), -1);
        due(38, "cut", x.item(0, 1), 1);
        due(38, "missing", x.casts(0, 3), MISSING);
        due(38, "missing", x.casts(3, 0), MISSING);
        due(38, "no such sheet", x.casts(3, 4), BEYOND);
        due(38, "no such sheet", x.casts(-1, 3), BEYOND);
    }

    private static void tables() {
        PaperForms x = oneOfEachKind();
        for (int item = 0; item < 6; item++) {
            x = oneOfEachKind();
            x.sheet(2, 2, 40);
            due(39, "upwards", x.table(2, item, -60, 3), 40);
            for (int i = 0; i < 40; i++) {
                due(39, "number", x.item(2, i), x.tells(item, -60 + 3 * i));
            }
        }
        x.sheet(2, 2, 40);
        due(39, "as far as 64", x.table(2, 0, 60, 2), 3);
        due(39, "at 64", x.item(2, 2), x.tells(0, 64));
        due(39, "then nothing", x.item(2, 3), 0);
        due(39, "downwards as far as -64", x.table(2, 1, -62, -1), 3);
        due(39, "at -64", x.item(2, 2), x.tells(1, -64));
        due(39, "in place", x.table(2, 1, 9, 0), 40);
        due(39, "in place", x.item(2, 39), x.tells(1, 9));
        due(39, "widest steps", x.table(2, 1, -64, 64), 3);
        due(39, "widest steps", x.table(2, 1, 64, -64), 3);
        x.sheet(1, 1, 2);
        due(39, "floats", x.table(1, 3, 8, 8), 2);
        due(39, "floats", x.item(1, 1), bits((float) Double.longBitsToDouble(x.tells(3, 16))));
        x.sheet(0, 0, 2);
        x.change(5, 2, 20);
        due(39, "ints", x.table(0, 5, 8, 8), 2);
        due(39, "ints, cut", x.item(0, 1), 1);
        x.sheet(0, 0, 0);
        due(39, "no numbers", x.table(0, 5, 8, 8), 0);
        due(39, "no such sheet", x.table(4, 0, 0, 0), BEYOND);
        due(39, "no such sheet", x.table(-1, 0, 0, 0), BEYOND);
        due(39, "no such item", x.table(3, 6, 0, 0), BEYOND);
        due(39, "no such item", x.table(3, -1, 0, 0), BEYOND);
        due(39, "from", x.table(3, 0, -65, 0), BEYOND);
        due(39, "from", x.table(3, 0, 65, 0), BEYOND);
        due(39, "step", x.table(3, 0, 0, -65), BEYOND);
        due(39, "step", x.table(3, 0, 0, 65), BEYOND);
        due(39, "missing", x.table(3, 0, 0, 1), MISSING);
    }

    private static void restsAndSums() {
        int[] numbers = {0, 1, -1, 24, -24, 25, -799, 16777219, -123456789, LEAST, MOST};
        for (int v : new int[] {1, 3, 7, 8, 799, 800}) {
            PaperForms x = new PaperForms();
            for (int sort = 0; sort < 3; sort++) {
                x.sheet(sort, sort, numbers.length);
                for (int i = 0; i < numbers.length; i++) {
                    x.write(sort, i, numbers[i]);
                }
                due(40, "rests by " + v, x.rests(sort, v), numbers.length);
            }
            double[] sums = new double[3];
            for (int i = 0; i < numbers.length; i++) {
                due(40, "ints " + numbers[i] + " by " + v, x.item(0, i), numbers[i] % v);
                due(40, "floats " + numbers[i] + " by " + v, x.item(1, i), bits(numbers[i] / 8f % (v / 8f)));
                due(40, "doubles " + numbers[i] + " by " + v, x.item(2, i), bits(numbers[i] / 8.0 % (v / 8.0)));
                sums[0] += numbers[i] % v;
                sums[1] += numbers[i] / 8f % (v / 8f);
                sums[2] += numbers[i] / 8.0 % (v / 8.0);
            }
            for (int sort = 0; sort < 3; sort++) {
                due(41, "sum", x.sum(sort), bits(sums[sort]));
            }
        }
        PaperForms x = oneOfEachKind();
        for (int item = 0; item < 6; item++) {
            x = oneOfEachKind();
            x.sheet(2, 2, 40);
            x.table(2, item, -60, 3);
            double sum = 0.0;
            for (int i = 0; i < 40; i++) {
                sum += Double.longBitsToDouble(x.item(2, i));
            }
            due(41, "sum from number 0 on", x.sum(2), bits(sum));
            x.rests(2, 1);
            for (int i = 0; i < 40; i++) {
                due(40, "TELLS by 1/8", x.item(2, i), bits(Double.longBitsToDouble(x.tells(item, -60 + 3 * i)) % 0.125));
            }
        }
        x.sheet(1, 1, 1);
        x.write(1, 0, -8);
        x.rests(1, 8);
        due(40, "-0.0", x.item(1, 0), LEAST);
        due(41, "0.0 and -0.0", x.sum(1), 0);
        x.rests(1, 8);
        due(40, "-0.0 again", x.item(1, 0), LEAST);
        x.sheet(0, 0, 1);
        x.casts(1, 0);
        due(38, "-0.0 to ints", x.item(0, 0), 0);
        x.casts(0, 1);
        due(38, "0 to floats", x.item(1, 0), 0);
        x.sheet(0, 0, 0);
        due(40, "no numbers", x.rests(0, 1), 0);
        due(41, "no numbers", x.sum(0), 0);
        for (int v : new int[] {0, 801, -1, LEAST, MOST}) {
            due(40, "by " + v, x.rests(3, v), BEYOND);
        }
        for (int s : new int[] {-1, 4, LEAST, MOST}) {
            due(40, "no such sheet", x.rests(s, 1), BEYOND);
            due(41, "no such sheet", x.sum(s), LONG_BEYOND);
        }
        due(40, "missing", x.rests(3, 1), MISSING);
        due(41, "missing", x.sum(3), LONG_MISSING);
    }

    private static void images() {
        PaperForms x = oneOfEachKind();
        due(43, "nothing is kept", x.back(), NONE);
        x.enemy(1, 2, true);
        x.aim(2, 9, 8);
        x.topic(1, 1, 5);
        x.rule(0, 4);
        x.rule(1, 70);
        x.rule(2, 80);
        x.seed(5);
        x.change(0, 6, 12);
        x.lay(0, 0, 1);
        x.sheet(0, 0, 1);
        due(42, "image()", x.image(), 1);
        for (int round = 0; round < 2; round++) {
            x.drop();
            x.change(4, 0, 2);
            x.change(0, 6, 13);
            x.change(0, 4, -9);
            x.enemy(1, 2, false);
            x.enemy(0, 3, true);
            x.aim(2, -9, 1);
            x.topic(1, 0, 2);
            x.rule(0, 1);
            x.rule(1, 1);
            x.rule(2, 1);
            x.seed(6);
            x.lay(0, 1, 2);
            x.write(0, 0, 3);
            due(43, "back()", x.back(), 6);
            due(43, "ITEMS", x.of(5, 2), 13);
            due(43, "KIND", x.of(4, 0), 4);
            due(43, "USED", x.of(0, 6), 12);
            due(43, "LEVEL", x.of(0, 4), 3);
            due(43, "ENEMIES", x.of(1, 7), 4);
            due(43, "ENEMIES", x.of(3, 7), 0);
            due(43, "ABILITY", x.told(22), 9);
            due(43, "WEIGHT", x.told(32), 8);
            due(43, "TOPIC", x.told(11), 15);
            due(43, "SIZE", x.told(0), 4);
            due(43, "LONGEST", x.told(1), 70);
            due(43, "EXPOSED", x.told(2), 80);
            due(43, "z", x.count(4), 5);
            due(43, "not the SHELVES", x.count(5), 2);
            due(43, "not the SHEETS", x.item(0, 0), 3);
            due(43, "not status()", x.status(-1), 1);
        }
        x.drop();
        due(42, "image() again", x.image(), 1);
        x.add(0, 0, 1, 1, 1, 1);
        due(43, "what was kept latest", x.back(), 5);
        PaperForms none = new PaperForms();
        none.image();
        none.add(0, 0, 1, 1, 1, 1);
        due(43, "no items are kept", none.back(), 0);
        due(43, "no items are there", none.of(0, 0), BEYOND);
    }

    private static void counts() {
        PaperForms x = oneOfEachKind();
        x.enemy(0, 1, true);
        x.enemy(0, 2, true);
        x.enemy(5, 4, true);
        x.change(1, 6, 5);
        x.change(5, 6, 900);
        x.seed(-44);
        x.lay(0, 5, 0);
        x.lay(3, 0, 0);
        x.lay(3, 0, 1);
        due(44, "ITEMS", x.count(0), 6);
        due(44, "twos of ENEMIES", x.count(1), 3);
        due(44, "USED", x.count(2), 905);
        due(44, "MINUTES", x.count(3), 8 + 9 + 10 + 11 + 12 + 13);
        due(44, "z", x.count(4), -44);
        due(44, "on SHELVES", x.count(5), 2);
        x.drop();
        due(44, "ITEMS", x.count(0), 5);
        due(44, "twos of ENEMIES", x.count(1), 2);
        due(44, "USED", x.count(2), 5);
        due(44, "MINUTES", x.count(3), 8 + 9 + 10 + 11 + 12);
        for (int what : new int[] {-1, 6, LEAST, MOST}) {
            due(44, "count(" + what + ")", x.count(what), BEYOND);
        }
    }

    private static void statuses() {
        PaperForms x = new PaperForms();
        x.of(0, 0);
        x.value(1);
        x.drop();
        x.back();
        x.gap();
        x.sheet(0, 0, -1);
        x.item(0, 0);
        x.write(0, 0, 0);
        for (int i = 0; i < 13; i++) {
            x.add(0, 0, 1, 1, 0, -1);
        }
        x.use(7);
        x.as(0, 1);
        int[] wanted = {2, 1, 1, 3, 1, 2, 1, 0};
        for (int which = 0; which < 8; which++) {
            due(45, "status(" + which + ")", x.status(which), wanted[which]);
        }
        due(45, "all", x.status(-1), 11);
        due(45, "asking counts nothing", x.status(-1), 11);
        due(45, "another one", x.status(-2), BEYOND);
        due(45, "counted from then on", x.status(0), 3);
        due(45, "another one", x.status(8), BEYOND);
        due(45, "counted from then on", x.status(-1), 13);
        x.image();
        x.of(-1, 0);
        x.back();
        due(45, "back() takes none back", x.status(-1), 14);
        x.seed(-1000001);
        x.seed(0);
        due(45, "an answer that looks like one", x.status(-1), 14);
    }

    /** Twelve items, the last of them in everything. */
    private static void fullBank() {
        PaperForms x = bankOf(12);
        x.aim(0, 0, 1);
        x.change(11, 3, 12);
        due(7, "enemy of the last", x.enemy(11, 0, true), 0);
        due(7, "enemy of the last", x.enemy(10, 11, true), 0);
        due(44, "twos of ENEMIES", x.count(1), 2);
        due(44, "MINUTES", x.count(3), 120);
        due(12, "value of all", x.value(4095) != x.value(2047) ? 1 : 0, 1);
        due(14, "peak of all", x.peak(4095, -64, 64), 0);
        due(18, "all", x.against(4095), 1);
        due(21, "with the last", x.best(), 2048 | 2);
        due(22, "of the least", x.rank(3), 9);
        due(23, "the last", x.swap(6, 1), 11);
        due(24, "the first with it", x.forms(0), 3);
        due(26, "use of the last", x.use(2048 | 2), 0);
        due(26, "USED of the last", x.of(11, 6), 1);
        due(27, "uses", x.uses(20), 20);
        due(44, "USED", x.count(2), 42);
        due(28, "loose", x.loose(20) >= 0 ? 1 : 0, 1);
        due(5, "drop", x.drop(), 11);
        due(5, "enemies of the last are gone", x.count(1), 0);
        due(12, "no such item any more", x.value(2048), LONG_BEYOND);
    }
}
