import java.util.ArrayList;
import java.util.Arrays;
import java.util.LinkedHashMap;
import java.util.List;
import java.util.Map;
import java.util.Random;
import java.util.TreeSet;

/**
 * Sentences of the document that the other tests ask only here and there, asked as a
 * whole, in the document's order: each is written above its checks. No object is used
 * for more than 512 calls.
 */
public final class SentenceChecks {
    private static final int MISSING = -1000006;
    private static final int LEAST = Integer.MIN_VALUE;
    private static final int MOST = Integer.MAX_VALUE;
    private static final int[] TOLD = {0, 1, 2, 10, 11, 12, 13, 20, 21, 22, 23, 30, 31, 32, 33};

    private interface Call {
        long on(PaperForms x);
    }

    private static int checks = 0;
    private static int wrong = 0;

    public static void main(String[] args) {
        eachTells();
        eachTellsWithEachMinutes();
        everyWeight();
        orderOfValue();
        sheetsHaveNumbersAlone();
        peaksOfAllRanges();
        shelvesKeepWhatStood();
        usesAreBestsUsed();
        looseIsOnceAfterOnce();
        sumsAreOfDoubles();
        objectsHaveNothingInCommon();
        askingChangesNothing();
        actsChangeWhatTheySay();
        exampleOfReadme();
        System.out.println(checks + " answers asked for, " + wrong + " of them not as due");
        if (wrong != 0) {
            System.exit(1);
        }
    }

    private static void due(String what, long got, long want) {
        checks++;
        if (got != want) {
            wrong++;
            if (wrong < 40) {
                System.out.println(what + " answered " + got + ", due is " + want);
            }
        }
    }

    private static long bits(double d) {
        return Double.doubleToLongBits(d);
    }

    private static double number(long bits) {
        return Double.longBitsToDouble(bits);
    }

    private static boolean isNumber(double d) {
        return !Double.isNaN(d) && !Double.isInfinite(d);
    }

    private static float distance(int slope, int level, int v) {
        return slope / 4f * (v / 8f - level / 8f);
    }

    private static double chance(float x) {
        return 0.5 + 0.5 * x / (1.0 + Math.abs(x));
    }

    private static double tells(int kind, int minutes, int slope, int level, int v) {
        double s = slope / 4f;
        float x = distance(slope, level, v);
        double p = chance(x);
        double item = s * s * p * (1.0 - p);
        float choice = (float) (item * p);
        switch (kind) {
            case 0: return item;
            case 1: return item * 1.25;
            case 2: return item * p;
            case 3: return item * 1.25 + minutes / 64.0;
            case 4: return choice * 0.3f;
            default: return minutes / 16.0 + Math.abs((double) x) % 0.75 / 4.0;
        }
    }

    // ---- terms 1

    /** "TELLS (a double) of an ITEM at an ABILITY", p and s: each KIND, SLOPE, LEVEL, ABILITY there is. */
    private static void eachTells() {
        int minutes = 0;
        for (int slope = 1; slope <= 12; slope++) {
            for (int level = -32; level <= 32; level++) {
                for (int kind = 0; kind < 6; kind++) {
                    PaperForms x = new PaperForms();
                    minutes = minutes % 20 + 1;
                    x.add(kind, 0, minutes, slope, level, -1);
                    due("slope", x.slope(0), Float.floatToIntBits(slope / 4f));
                    for (int v = -64; v <= 64; v++) {
                        tellsAndChanceAt(x, new int[] {kind, minutes, slope, level}, v);
                    }
                }
            }
        }
    }

    /** "There never is one that is no number." */
    private static void tellsAndChanceAt(PaperForms x, int[] item, int v) {
        long told = x.tells(0, v);
        long chance = x.chance(0, v);
        double want = tells(item[0], item[1], item[2], item[3], v);
        double p = chance(distance(item[2], item[3], v));
        if (told != bits(want) || chance != bits(p) || !isNumber(number(told)) || !isNumber(number(chance))) {
            String what = Arrays.toString(item) + " at " + v;
            due("tells of " + what, told, bits(want));
            due("chance of " + what, chance, bits(p));
            due("no number: " + what, isNumber(number(told)) && isNumber(number(chance)) ? 1 : 0, 1);
        }
        checks += 2;
    }

    private static void eachTellsWithEachMinutes() {
        for (int kind = 0; kind < 6; kind++) {
            for (int minutes = 1; minutes <= 20; minutes++) {
                PaperForms x = new PaperForms();
                x.add(kind, 0, minutes, 7, -5, -1);
                for (int v = -64; v <= 64; v++) {
                    tellsAndChanceAt(x, new int[] {kind, minutes, 7, -5}, v);
                }
            }
        }
    }

    /** "TELLS * (WEIGHT * 0.1f) more": each WEIGHT of each AIM, of each KIND. */
    private static void everyWeight() {
        for (int kind = 0; kind < 6; kind++) {
            for (int k = 0; k < 4; k++) {
                PaperForms x = new PaperForms();
                x.add(kind, 0, 13, 7, 3, -1);
                for (int weight = 9; weight >= 0; weight--) {
                    x.aim(k, 10 - kind, weight);
                    double value = 0.0 + tells(kind, 13, 7, 3, 10 - kind) * (weight * 0.1f);
                    due("value with weight " + weight, x.value(1), bits(value));
                    due("worth with weight " + weight, x.worth(1), (int) (value * 1000.0));
                }
            }
        }
    }

    /** "AIM by AIM, ITEM by ITEM (the lesser number first)": another order gives other bits. */
    private static void orderOfValue() {
        int byItems = 0;
        int greaterFirst = 0;
        int lastAimFirst = 0;
        for (int bank = 0; bank < 12; bank++) {
            double[][] shares = new double[4][12];
            PaperForms x = drawnBank(bank, shares);
            for (int set = 0; set < 4096; set += 97 + bank) {
                double value = total(shares, set, false, false);
                due("value(" + set + ")", x.value(set), bits(value));
                due("worth(" + set + ")", x.worth(set), (int) (value * 1000.0));
                greaterFirst += value != total(shares, set, false, true) ? 1 : 0;
                lastAimFirst += value != total(shares, set, true, false) ? 1 : 0;
                byItems += value != totalByItems(shares, set) ? 1 : 0;
            }
        }
        due("some sets show the order", greaterFirst > 9 && lastAimFirst > 9 && byItems > 9 ? 1 : 0, 1);
    }

    private static PaperForms drawnBank(int seed, double[][] shares) {
        Random random = new Random(seed);
        PaperForms x = new PaperForms();
        int[][] aims = new int[4][];
        for (int k = 0; k < 4; k++) {
            aims[k] = new int[] {random.nextInt(129) - 64, random.nextInt(10)};
            x.aim(k, aims[k][0], aims[k][1]);
        }
        for (int i = 0; i < 12; i++) {
            int kind = random.nextInt(6);
            int minutes = 1 + random.nextInt(20);
            int slope = 1 + random.nextInt(12);
            int level = random.nextInt(65) - 32;
            x.add(kind, random.nextInt(4), minutes, slope, level, -1);
            for (int k = 0; k < 4; k++) {
                shares[k][i] = tells(kind, minutes, slope, level, aims[k][0]) * (aims[k][1] * 0.1f);
            }
        }
        return x;
    }

    private static double total(double[][] shares, int set, boolean lastAimFirst, boolean greaterFirst) {
        double total = 0.0;
        for (int k = 0; k < 4; k++) {
            for (int i = 0; i < 12; i++) {
                int item = greaterFirst ? 11 - i : i;
                if ((set & 1 << item) != 0) {
                    total += shares[lastAimFirst ? 3 - k : k][item];
                }
            }
        }
        return total;
    }

    private static double totalByItems(double[][] shares, int set) {
        double total = 0.0;
        for (int i = 0; i < 12; i++) {
            for (int k = 0; k < 4; k++) {
                if ((set & 1 << i) != 0) {
                    total += shares[k][i];
                }
            }
        }
        return total;
    }

    /** "There never is one that is no number", on sheets: each sort to each, and rests of it. */
    private static void sheetsHaveNumbersAlone() {
        int[] extremes = {LEAST, MOST, LEAST + 1, MOST - 1, 0, 1, -1, 16777217, -16777217};
        for (int from = 0; from < 3; from++) {
            for (int to = 0; to < 3; to++) {
                PaperForms x = new PaperForms();
                x.sheet(0, from, extremes.length);
                x.sheet(1, to, extremes.length);
                for (int i = 0; i < extremes.length; i++) {
                    x.write(0, i, extremes[i]);
                }
                x.casts(0, 1);
                for (int v : new int[] {800, 799, 3, 1}) {
                    x.rests(1, v);
                    for (int i = 0; i < extremes.length; i++) {
                        long got = x.item(1, i);
                        double d = to == 0 ? got : to == 1 ? Float.intBitsToFloat((int) got) : number(got);
                        due("a rest is a number", isNumber(d) ? 1 : 0, 1);
                        double most = to == 0 ? v - 1 : v / 8.0;
                        due("a rest is within its bounds", Math.abs(d) <= most ? 1 : 0, 1);
                    }
                    due("a sum is a number", isNumber(number(x.sum(1))) ? 1 : 0, 1);
                }
            }
        }
    }

    // ---- promise 14

    /** "Of ABILITIES from, .. to that at which a set TELLS most": the least of like ones, each range. */
    private static void peaksOfAllRanges() {
        int[][] bank = {{5, 4, 4, 0}, {0, 1, 12, -9}, {4, 2, 5, 20}, {1, 3, 2, 11}, {5, 9, 8, -3}};
        for (int set = 0; set < 32; set++) {
            double[] told = new double[129];
            for (int v = -64; v <= 64; v++) {
                for (int i = 0; i < 5; i++) {
                    if ((set & 1 << i) != 0) {
                        told[v + 64] += tells(bank[i][0], bank[i][1], bank[i][2], bank[i][3], v);
                    }
                }
            }
            PaperForms x = new PaperForms();
            for (int[] item : bank) {
                x.add(item[0], 0, item[1], item[2], item[3], -1);
            }
            for (int from = -64; from <= 64; from += 9) {
                for (int to = from; to <= 64; to += 7) {
                    int peak = from;
                    for (int v = from; v <= to; v++) {
                        peak = told[v + 64] > told[peak + 64] ? v : peak;
                    }
                    due("peak(" + set + ", " + from + ", " + to + ")", x.peak(set, from, to), peak);
                }
            }
        }
    }

    // ---- terms 3

    /**
     * "Nothing on a SHELF changes, if ITEMS go, or become of other KINDS": also if another
     * ITEM comes in its place, or what was kept comes back.
     */
    private static void shelvesKeepWhatStood() {
        for (int kind = 0; kind < 6; kind++) {
            for (int other = 0; other < 6; other++) {
                PaperForms x = new PaperForms();
                x.image();
                x.add(0, 0, 1, 1, 0, -1);
                x.add(kind, 0, 1, 1, 0, -1);
                x.lay(0, 3, 1);
                x.shelf(1, kind);
                x.change(1, 0, other);
                stillStands(x, kind);
                x.drop();
                stillStands(x, kind);
                x.add(other, 0, 1, 1, 0, -1);
                stillStands(x, kind);
                due("it moves as what it was", x.moves(0, 1), 6);
                due("it stands there as what it was", x.stands(1, 3, 1), kind);
                x.back();
                stillStands(x, kind);
                x.add(other, 0, 1, 1, 0, -1);
                due("an ITEM is laid as what it is", x.lay(0, 3, 0), 1);
                due("an ITEM is laid as what it is", x.stands(0, 3, 1), other);
                due("the other SHELF stays", x.stands(1, 3, 0), 1);
            }
        }
    }

    private static void stillStands(PaperForms x, int kind) {
        due("the number it had", x.stands(0, 3, 0), 1);
        due("the KIND that it was", x.stands(0, 3, 1), kind);
        due("nothing beside it", x.stands(0, 2, 0), MISSING);
    }

    // ---- promises 27, 28

    /** "n times (1 to 20) BEST is used, as long as there is one." */
    private static void usesAreBestsUsed() {
        for (int bank = 0; bank < 10; bank++) {
            for (int exposed = 1; exposed < 14; exposed += 4) {
                PaperForms x = drawnBank(bank, new double[4][12]);
                PaperForms y = drawnBank(bank, new double[4][12]);
                x.rule(0, 1 + bank % 6);
                y.rule(0, 1 + bank % 6);
                x.rule(2, exposed);
                y.rule(2, exposed);
                int often = 0;
                for (int i = 0; i < 20 && y.papers() > 0; i++) {
                    y.use(y.best());
                    often++;
                }
                due("uses(20)", x.uses(20), often);
                sameUsed(x, y);
            }
        }
    }

    private static void sameUsed(PaperForms x, PaperForms y) {
        for (int i = 0; i < 12; i++) {
            due("USED of " + i, x.of(i, 6), y.of(i, 6));
        }
    }

    /** "n times (1 to 20) two draws": each finds what those ahead of it have used. */
    private static void looseIsOnceAfterOnce() {
        for (int bank = 0; bank < 30; bank++) {
            PaperForms x = drawnBank(bank, new double[4][12]);
            PaperForms y = drawnBank(bank, new double[4][12]);
            for (PaperForms z : List.of(x, y)) {
                z.rule(0, 6);
                z.rule(1, 240);
                z.rule(2, 2);
                z.seed(bank * 12345);
            }
            int often = 0;
            for (int i = 0; i < 20; i++) {
                often += y.loose(1);
            }
            due("loose(20)", x.loose(20), often);
            due("z", x.count(4), y.count(4));
            sameUsed(x, y);
        }
    }

    // ---- promise 41

    /** "The sum of all numbers of a SHEET, each as a double": no float's rounding, no int's wrap-around. */
    private static void sumsAreOfDoubles() {
        PaperForms x = new PaperForms();
        x.sheet(0, 0, 2);
        x.write(0, 0, MOST);
        x.write(0, 1, MOST);
        due("two greatest ints", x.sum(0), bits(2.0 * MOST));
        x.sheet(1, 1, 3);
        x.write(1, 0, 1 << 27);
        x.write(1, 1, 1);
        x.write(1, 2, 1);
        due("a float and two small ones", x.sum(1), bits(16777216.0 + 0.125 + 0.125));
        x.sheet(2, 2, 3);
        x.casts(1, 2);
        due("doubles", x.sum(2), bits(16777216.0 + 0.125 + 0.125));
    }

    // ---- what is said of all acts

    /** What is done to one object is no matter to another one. */
    private static void objectsHaveNothingInCommon() {
        Call[] asked = {SentenceChecks::rich, SentenceChecks::grow, x -> 0};
        PaperForms[] together = {new PaperForms(), new PaperForms(), new PaperForms()};
        for (int i = 0; i < 3; i++) {
            asked[i].on(together[i]);
        }
        for (int i = 2; i >= 0; i--) {
            PaperForms alone = new PaperForms();
            asked[i].on(alone);
            due("unlike one that was alone", changed(snapshot(together[i]), snapshot(alone)).size(), 0);
        }
    }

    private static long grow(PaperForms x) {
        for (int i = 0; i < 4; i++) {
            x.add(5 - i, i, 20 - i, 12 - i, i, i - 1);
            x.aim(i, i, i);
            x.topic(i, i, i + 1);
            x.shelf(i, i);
            x.sheet(i, i % 3, i);
        }
        x.enemy(0, 3, true);
        x.of(-1, 0);
        x.seed(5);
        return x.image();
    }

    /** Twelve items, nothing as at first, what is kept unlike what is there. */
    private static long rich(PaperForms x) {
        for (int i = 0; i < 11; i++) {
            x.add(i % 6, i % 4, i + 1, i + 1, 3 * i - 16, -1);
        }
        x.enemy(2, 3, true);
        x.aim(1, -7, 3);
        x.rule(2, 500);
        x.seed(9);
        x.image();
        x.add(5, 3, 12, 12, 32, 2);
        x.change(10, 5, 2);
        x.enemy(9, 11, true);
        x.change(3, 6, 998);
        x.aim(0, -64, 9);
        x.topic(3, 0, 2);
        x.rule(1, 30);
        x.rule(2, 999);
        x.seed(-77);
        for (int place = 0; place < 6; place++) {
            x.lay(0, place, place + 6);
        }
        x.shelf(1, 1);
        x.lay(1, 0, 1);
        x.lay(1, 5, 3);
        x.sheet(0, 0, 8);
        x.sheet(1, 1, 8);
        x.sheet(2, 2, 8);
        for (int i = 0; i < 8; i++) {
            x.write(0, i, 1000 + i);
            x.write(1, i, 2000 + i);
            x.write(2, i, 3000 + i);
        }
        return 0;
    }

    /** All that an object tells, by name; what asking changes comes last. */
    private static Map<String, Long> snapshot(PaperForms x) {
        Map<String, Long> all = new LinkedHashMap<>();
        for (int which = -1; which < 8; which++) {
            all.put("status " + which, (long) x.status(which));
        }
        bankOf(x, "", all);
        for (int place = 0; place < 24; place++) {
            int number = x.stands(place / 6, place % 6, 0);
            all.put("shelf " + place / 6 + " number " + place % 6, (long) number);
            if (number >= 0) {
                all.put("shelf " + place / 6 + " kind " + place % 6, (long) x.stands(place / 6, place % 6, 1));
            }
        }
        for (int s = 0; s < 4; s++) {
            for (int i = 0; i < 9; i++) {
                all.put("sheet " + s + " number " + i, x.item(s, i));
            }
            x.write(s, 0, 3);
            all.put("sheet " + s + " sort", x.item(s, 0));
        }
        if (x.count(0) == 0) {
            x.add(0, 0, 1, 1, 0, -1);
        }
        for (int place = 0; place < 24; place++) {
            x.change(0, 0, place / 4);
            all.put("shelf " + place % 4 + " for " + place / 4, x.lay(place % 4, 0, 0) >= -1 ? 1L : 0L);
        }
        all.put("kept ITEMS", (long) x.back());
        bankOf(x, "kept ", all);
        return all;
    }

    private static void bankOf(PaperForms x, String kept, Map<String, Long> all) {
        all.put(kept + "z", (long) x.count(4));
        for (int what : TOLD) {
            all.put(kept + "told " + what, (long) x.told(what));
        }
        for (int i = 0; i < x.count(0); i++) {
            for (int what = 0; what < 8; what++) {
                all.put(kept + "of " + i + " " + what, (long) x.of(i, what));
            }
        }
    }

    private static List<String> changed(Map<String, Long> some, Map<String, Long> others) {
        TreeSet<String> names = new TreeSet<>(some.keySet());
        names.addAll(others.keySet());
        List<String> unlike = new ArrayList<>();
        for (String name : names) {
            if (!some.containsKey(name) || !some.get(name).equals(others.get(name))) {
                unlike.add(name);
            }
        }
        return unlike;
    }

    /** "Nothing is promised beyond the answers and state changes described": what only tells changes nothing. */
    private static void askingChangesNothing() {
        Call[] asking = {x -> x.of(4, 7), x -> x.as(3, 1), x -> x.slope(2), x -> x.tells(5, -9), x -> x.chance(4, 9),
            x -> x.value(4095), x -> x.worth(4095), x -> x.peak(4095, -64, 64), x -> x.told(13), x -> x.against(3),
            x -> x.papers(), x -> x.without(1), x -> x.without(5), x -> x.best(), x -> x.rank(0), x -> x.swap(3, 0),
            x -> x.forms(0), x -> x.forms(1), x -> x.gap(), x -> x.stands(0, 5, 1), x -> x.item(1, 7), x -> x.sum(2),
            x -> x.count(0), x -> x.count(2), x -> x.count(4), x -> x.count(5), x -> x.status(-1), x -> x.status(7)};
        for (int i = 0; i < asking.length; i++) {
            PaperForms x = new PaperForms();
            rich(x);
            long first = asking[i].on(x);
            due("the same answer again, " + i, asking[i].on(x), first);
            due("it is no finding, " + i, first < -2000000000L || first < 0 && first >= -1000008 && first <= -1000001 ? 1 : 0, 0);
            onlyChanges("asking " + i, x, null);
        }
    }

    /** Each act changes what its promise says, and nothing else. */
    private static void actsChangeWhatTheySay() {
        acts("add", x -> x.drop() + x.add(4, 1, 2, 3, 4, 3), "of 11 [0-7]|of 9 7");
        for (int what = 0; what < 7; what++) {
            int w = what;
            acts("change " + what, x -> x.change(7, w, 2), "of 7 " + what);
        }
        acts("drop", x -> x.drop(), "of 11 [0-7]|of 9 7");
        acts("enemy", x -> x.enemy(0, 5, true), "of 0 7|of 5 7");
        acts("no enemy", x -> x.enemy(3, 2, false), "of 2 7|of 3 7");
        acts("aim", x -> x.aim(2, 3, 4), "told 22|told 32");
        acts("topic", x -> x.topic(1, 2, 3), "told 11");
        for (int what = 0; what < 3; what++) {
            int w = what;
            acts("rule " + what, x -> x.rule(w, 5), "told " + what);
        }
        acts("use", x -> x.use(17), "of 0 6|of 4 6");
        acts("uses", x -> x.uses(20), "of \\d+ 6");
        acts("loose", x -> x.loose(20), "of \\d+ 6|z");
        acts("seed", x -> x.seed(5), "z");
        acts("shelf", x -> x.shelf(1, 4), "shelf 1 .*");
        acts("lay", x -> x.lay(1, 3, 3), "shelf 1 (number|kind) 3");
        acts("moves", x -> x.moves(1, 3), "shelf 3 (number|kind) [05]");
        acts("sheet", x -> x.sheet(1, 2, 3), "sheet 1 .*");
        acts("no sheet", x -> x.sheet(1, -1, 3), "sheet 1 .*");
        acts("write", x -> x.write(2, 5, 1), "sheet 2 number 5");
        acts("copy", x -> x.copy(0, 1, 0, 4, 3), "sheet 0 number [456]");
        acts("casts", x -> x.casts(0, 2), "sheet 2 number [0-7]");
        acts("table", x -> x.table(1, 3, 62, 1), "sheet 1 number [012]");
        acts("rests", x -> x.rests(0, 7), "sheet 0 number [0-7]");
        acts("image", x -> x.image(), "kept .*");
        acts("back", x -> x.back(), "of \\d+ \\d|told \\d+|z");
    }

    private static void acts(String name, Call act, String mayChange) {
        PaperForms x = new PaperForms();
        rich(x);
        act.on(x);
        onlyChanges(name, x, mayChange);
    }

    /** Compares with a rich object of which nothing was asked; null: nothing may change. */
    private static void onlyChanges(String name, PaperForms x, String mayChange) {
        PaperForms twin = new PaperForms();
        rich(twin);
        List<String> unlike = changed(snapshot(x), snapshot(twin));
        for (String what : unlike) {
            due(name + " changes " + what, mayChange != null && what.matches(mayChange) ? 1 : 0, 1);
        }
        due(name + " changes what it says", unlike.isEmpty() ? 0 : 1, mayChange == null ? 0 : 1);
    }

    // ---- README.md

    private static void exampleOfReadme() {
        PaperForms x = new PaperForms();
        int first = x.add(0, 0, 5, 4, 0, -1);
        int second = x.add(1, 1, 10, 6, 8, -1);
        due("first", first, 0);
        due("second", second, 1);
        due("aim", x.aim(0, 0, 5), 0);
        int paper = x.best();
        due("best()", paper, 3);
        due("use", x.use(paper), 0);
    }
}
