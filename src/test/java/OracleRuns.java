import java.lang.reflect.Array;
import java.lang.reflect.InvocationTargetException;
import java.lang.reflect.Method;
import java.util.ArrayList;
import java.util.Arrays;
import java.util.Comparator;
import java.util.HashSet;
import java.util.List;
import java.util.Map;
import java.util.Random;
import java.util.Set;
import java.util.TreeMap;
import java.util.stream.Collectors;
import java.util.stream.IntStream;

/**
 * Long runs of drawn calls (always the same ones), each answer compared with that of
 * an oracle: the document's words written down a second time, with all that the Java
 * library has (bits, %, classes of items, arrays that refuse things of another class).
 */
public final class OracleRuns {
    private static final int CALLS = 512;
    private static final int RUNS = 400;

    private static final Map<String, Method> FACE = new TreeMap<>();
    private static final Map<String, Method> DUE = new TreeMap<>();
    private static final Map<String, Integer> ANSWERED = new TreeMap<>();

    public static void main(String[] args) throws Exception {
        for (Method m : PaperForms.class.getDeclaredMethods()) {
            if (java.lang.reflect.Modifier.isPublic(m.getModifiers())) {
                FACE.put(m.getName(), m);
            }
        }
        for (Method m : Oracle.class.getDeclaredMethods()) {
            DUE.put(m.getName(), m);
        }
        int wrong = 0;
        for (int run = 0; run < RUNS && wrong < 5; run++) {
            wrong += compare(run) ? 0 : 1;
        }
        for (String name : FACE.keySet()) {
            if (ANSWERED.getOrDefault(name, 0) < 50) {
                System.out.println(name + " had hardly an answer that is no finding");
                wrong++;
            }
        }
        System.out.println(wrong == 0 ? RUNS + " runs are as due" : wrong + " runs are not as due");
        if (wrong != 0) {
            System.exit(1);
        }
    }

    private static boolean compare(int run) throws Exception {
        PaperForms x = new PaperForms();
        Oracle due = new Oracle();
        Draw draw = new Draw(run);
        List<String> calls = new ArrayList<>();
        for (int i = 0; i < CALLS; i++) {
            String name = draw.name(i, due);
            Object[] arguments = draw.arguments(name, due);
            Object got = answer(FACE.get(name), x, arguments);
            Object want = wanted(name, due, arguments);
            String all = Arrays.toString(arguments);
            calls.add(name + "(" + all.substring(1, all.length() - 1) + ") -> " + got);
            if (!got.equals(want)) {
                System.out.println("run " + run + ", call " + i + ": due is " + want + " at the end of");
                calls.subList(Math.max(0, calls.size() - 40), calls.size()).forEach(System.out::println);
                return false;
            }
        }
        return true;
    }

    private static Object answer(Method m, Object on, Object[] arguments) throws Exception {
        try {
            return m.invoke(on, arguments);
        } catch (InvocationTargetException e) {
            return e.getCause();
        }
    }

    private static Object wanted(String name, Oracle due, Object[] arguments) throws Exception {
        Object answer = answer(DUE.get(name), due, arguments);
        if (answer instanceof Finding f) {
            due.findings[f.k]++;
            boolean isLong = FACE.get(name).getReturnType() == long.class;
            return isLong ? (Object) (-9000000000000000001L - f.k) : (Object) (-1000001 - f.k);
        }
        if (answer instanceof Throwable t) {
            throw new IllegalStateException("the oracle failed at " + name, t);
        }
        ANSWERED.merge(name, 1, Integer::sum);
        return answer;
    }

    /** Draws calls: mostly ones that can be answered, some at and beyond the edges. */
    private static final class Draw {
        private final Random random;
        private final int full;
        private final int wild;
        private boolean filling;
        private final String[] names = FACE.keySet().toArray(new String[0]);

        Draw(int run) {
            random = new Random(run * 7919L + 17);
            full = random.nextInt(14);
            wild = new int[] {3, 12, 60, 60}[random.nextInt(4)];
        }

        String name(int i, Oracle due) {
            filling = i < full;
            if (filling || due.items.size() < 3 && random.nextInt(3) == 0) {
                return "add";
            }
            if (random.nextInt(6) == 0) {
                return List.of("best", "papers", "rank", "swap", "use", "forms", "gap", "against")
                        .get(random.nextInt(8));
            }
            if (random.nextInt(8) == 0) {
                return List.of("aim", "enemy", "change", "sheet", "write", "lay").get(random.nextInt(6));
            }
            return names[random.nextInt(names.length)];
        }

        private int from(int low, int high) {
            // A bank is filled first, so that wild runs aren't runs of no items alone.
            if (!filling && random.nextInt(wild) == 0) {
                int[] others = {low - 1, high + 1, Integer.MIN_VALUE, Integer.MAX_VALUE, -1, low - 7, high + 9};
                return others[random.nextInt(others.length)];
            }
            if (random.nextInt(8) == 0) {
                return random.nextBoolean() ? low : high;
            }
            return low + random.nextInt(high - low + 1);
        }

        private int item(Oracle due) {
            return from(0, Math.max(0, due.items.size() - 1));
        }

        private int set(Oracle due) {
            if (random.nextInt(2) == 0) {
                List<Integer> papers = due.allPapers(0);
                if (!papers.isEmpty()) {
                    return papers.get(random.nextInt(papers.size()));
                }
            }
            return from(0, (1 << due.items.size()) - 1);
        }

        private int any() {
            return random.nextInt(3) == 0 ? random.nextInt() : random.nextInt(4001) - 2000;
        }

        Object[] arguments(String name, Oracle due) {
            switch (name) {
                case "add":
                    return new Object[] {from(0, 5), from(0, 3), from(1, 20), from(1, 12), from(-32, 32),
                        random.nextBoolean() ? -1 : from(-1, 3)};
                case "of":
                    return new Object[] {item(due), from(0, 7)};
                case "change": {
                    int what = from(0, 6);
                    int[][] ranges = {{0, 5}, {0, 3}, {1, 20}, {1, 12}, {-32, 32}, {-1, 3}, {0, 999}};
                    int[] range = what >= 0 && what < 7 ? ranges[what] : new int[] {0, 3};
                    return new Object[] {item(due), what, from(range[0], range[1])};
                }
                case "as":
                    return new Object[] {item(due), from(0, 5)};
                case "enemy":
                    return new Object[] {item(due), item(due), random.nextInt(3) == 0};
                case "slope":
                    return new Object[] {item(due)};
                case "tells":
                case "chance":
                    return new Object[] {item(due), from(-64, 64)};
                case "aim":
                    return new Object[] {from(0, 3), from(-64, 64), from(0, 9)};
                case "value":
                case "worth":
                case "against":
                case "rank":
                case "use":
                    return new Object[] {set(due)};
                case "peak":
                    return new Object[] {set(due), from(-64, 0), from(-10, 64)};
                case "topic":
                    return new Object[] {from(0, 3), random.nextInt(4) == 0 ? from(0, 6) : 0,
                        random.nextInt(4) == 0 ? from(0, 6) : 6};
                case "rule": {
                    int what = from(0, 2);
                    int most = what == 0 ? 6 : what == 1 ? 240 : 999;
                    int v = random.nextInt(3) == 0 ? from(what == 0 ? 1 : 0, most)
                            : what == 0 ? 2 + random.nextInt(2) : most / 2;
                    return new Object[] {what, v};
                }
                case "told":
                    return new Object[] {from(0, 3) + 10 * from(0, 3)};
                case "without":
                    return new Object[] {from(1, 6)};
                case "swap": {
                    int set = set(due);
                    int item = set > 0 && random.nextInt(4) != 0 ? Integer.numberOfTrailingZeros(set) : item(due);
                    return new Object[] {set, item};
                }
                case "forms":
                    return new Object[] {from(0, 1)};
                case "uses":
                case "loose":
                    return new Object[] {from(1, 20)};
                case "seed":
                    return new Object[] {any()};
                case "shelf":
                    return new Object[] {from(0, 3), from(0, 5)};
                case "lay":
                    return new Object[] {from(0, 3), from(0, 5), item(due)};
                case "stands":
                    return new Object[] {from(0, 3), from(0, 5), from(0, 1)};
                case "moves":
                    return new Object[] {from(0, 3), from(0, 3)};
                case "sheet":
                    return new Object[] {from(0, 3), random.nextInt(5) == 0 ? from(-1, 2) : random.nextInt(3),
                        from(0, 40)};
                case "write":
                    return new Object[] {from(0, 3), from(0, 20), any()};
                case "item":
                    return new Object[] {from(0, 3), from(0, 20)};
                case "copy":
                    return new Object[] {from(0, 3), from(0, 5), from(0, 3), from(0, 5), from(0, 20)};
                case "casts":
                    return new Object[] {from(0, 3), from(0, 3)};
                case "table":
                    return new Object[] {from(0, 3), item(due), from(-64, 64),
                        random.nextBoolean() ? from(-3, 3) : from(-64, 64)};
                case "rests":
                    return new Object[] {from(0, 3), random.nextBoolean() ? from(1, 20) : from(1, 800)};
                case "sum":
                    return new Object[] {from(0, 3)};
                case "count":
                    return new Object[] {from(0, 5)};
                case "status":
                    return new Object[] {from(-1, 7)};
                default:
                    return new Object[0];
            }
        }
    }

    private static final class Finding extends RuntimeException {
        private static final long serialVersionUID = 1L;
        final int k;

        Finding(int k) {
            super("finding " + k, null, false, false);
            this.k = k;
        }
    }

    private static final int BEYOND = 0;
    private static final int FULL = 1;
    private static final int KIND = 2;
    private static final int NONE = 3;
    private static final int STATE = 4;
    private static final int MISSING = 5;
    private static final int SIZE = 6;

    private static class Item {
        int topic;
        int minutes;
        int slope;
        int level;
        int text;
        int used;

        static Item of(int kind) {
            switch (kind) {
                case 0: return new Item();
                case 1: return new Open();
                case 2: return new Choice();
                case 3: return new LongOne();
                case 4: return new Pair();
                default: return new Essay();
            }
        }

        Item like(int kind) {
            Item other = of(kind);
            other.topic = topic;
            other.minutes = minutes;
            other.slope = slope;
            other.level = level;
            other.text = text;
            other.used = used;
            return other;
        }

        int kind() { return 0; }

        float s() { return slope / 4f; }

        float x(int v) { return s() * (v / 8f - level / 8f); }

        double p(int v) { return 0.5 + 0.5 * x(v) / (1.0 + Math.abs(x(v))); }

        double tells(int v) { return (double) s() * (double) s() * p(v) * (1.0 - p(v)); }
    }

    private static class Open extends Item {
        @Override int kind() { return 1; }

        @Override double tells(int v) { return super.tells(v) * 1.25; }
    }

    private static class Choice extends Item {
        @Override int kind() { return 2; }

        @Override double tells(int v) { return super.tells(v) * p(v); }
    }

    private static class LongOne extends Open {
        @Override int kind() { return 3; }

        @Override double tells(int v) { return super.tells(v) + minutes / 64.0; }
    }

    private static class Pair extends Choice {
        @Override int kind() { return 4; }

        @Override double tells(int v) { return (float) super.tells(v) * 0.3f; }
    }

    private static class Essay extends Item {
        @Override int kind() { return 5; }

        @Override double tells(int v) { return minutes / 16.0 + Math.abs((double) x(v)) % 0.75 / 4.0; }
    }

    /** The document, said again. */
    private static final class Oracle {
        List<Item> items = new ArrayList<>();
        Set<List<Integer>> enemies = new HashSet<>();
        int[][] aims = new int[4][2];
        int[][] topics = {{0, 6}, {0, 6}, {0, 6}, {0, 6}};
        int[] limits = {2, 60, 999};
        int z = 1;
        final Item[][] shelves = {new Item[6], new Item[6], new Item[6], new Item[6]};
        final int[][] numbers = new int[4][6];
        final Object[] sheets = new Object[4];
        final int[] findings = new int[8];
        Oracle kept;

        private void check(boolean good, int k) {
            if (!good) {
                throw new Finding(k);
            }
        }

        private void among(int v, int low, int high) {
            check(low <= v && v <= high, BEYOND);
        }

        private Item get(int item) {
            among(item, 0, items.size() - 1);
            return items.get(item);
        }

        private List<Integer> members(int set) {
            among(set, 0, (1 << items.size()) - 1);
            return IntStream.range(0, 12).filter(i -> (set & 1 << i) != 0).boxed().collect(Collectors.toList());
        }

        int add(int kind, int topic, int minutes, int slope, int level, int text) {
            among(kind, 0, 5);
            among(topic, 0, 3);
            among(minutes, 1, 20);
            among(slope, 1, 12);
            among(level, -32, 32);
            among(text, -1, 3);
            check(items.size() < 12, FULL);
            Item item = Item.of(kind);
            item.topic = topic;
            item.minutes = minutes;
            item.slope = slope;
            item.level = level;
            item.text = text;
            items.add(item);
            return items.size() - 1;
        }

        int of(int item, int what) {
            Item it = get(item);
            among(what, 0, 7);
            int foes = enemies.stream().filter(e -> e.contains(item)).mapToInt(e -> 1 << e.get(0) | 1 << e.get(1)).sum();
            int others = enemies.stream().filter(e -> e.contains(item)).mapToInt(e -> 1 << item).sum();
            return new int[] {it.kind(), it.topic, it.minutes, it.slope, it.level, it.text, it.used, foes - others}[what];
        }

        int change(int item, int what, int v) {
            Item it = get(item);
            among(what, 0, 6);
            int before = of(item, what);
            switch (what) {
                case 0 -> { among(v, 0, 5); items.set(item, it.like(v)); }
                case 1 -> { among(v, 0, 3); it.topic = v; }
                case 2 -> { among(v, 1, 20); it.minutes = v; }
                case 3 -> { among(v, 1, 12); it.slope = v; }
                case 4 -> { among(v, -32, 32); it.level = v; }
                case 5 -> { among(v, -1, 3); it.text = v; }
                default -> { among(v, 0, 999); it.used = v; }
            }
            return before;
        }

        int drop() {
            check(!items.isEmpty(), NONE);
            int last = items.size() - 1;
            items.remove(last);
            enemies.removeIf(e -> e.contains(last));
            return last;
        }

        int as(int item, int kind) {
            Item it = get(item);
            among(kind, 0, 5);
            check(Item.of(kind).getClass().isInstance(it), KIND);
            return it.minutes;
        }

        int enemy(int item, int other, boolean are) {
            get(item);
            get(other);
            check(item != other, BEYOND);
            List<Integer> two = List.of(Math.min(item, other), Math.max(item, other));
            boolean were = enemies.contains(two);
            if (are) {
                enemies.add(two);
            } else {
                enemies.remove(two);
            }
            return were ? 1 : 0;
        }

        int slope(int item) {
            return Float.floatToIntBits(get(item).s());
        }

        long tells(int item, int v) {
            Item it = get(item);
            among(v, -64, 64);
            return Double.doubleToLongBits(it.tells(v));
        }

        long chance(int item, int v) {
            Item it = get(item);
            among(v, -64, 64);
            return Double.doubleToLongBits(it.p(v));
        }

        int aim(int k, int v, int weight) {
            among(k, 0, 3);
            among(v, -64, 64);
            among(weight, 0, 9);
            int before = aims[k][1];
            aims[k] = new int[] {v, weight};
            return before;
        }

        private double valueOf(int set) {
            double value = 0.0;
            for (int[] aim : aims) {
                for (int item : members(set)) {
                    value += items.get(item).tells(aim[0]) * (aim[1] * 0.1f);
                }
            }
            return value;
        }

        long value(int set) {
            return Double.doubleToLongBits(valueOf(set));
        }

        int worth(int set) {
            return (int) (valueOf(set) * 1000.0);
        }

        int peak(int set, int from, int to) {
            List<Integer> members = members(set);
            among(from, -64, 64);
            among(to, -64, 64);
            check(from <= to, BEYOND);
            TreeMap<Double, Integer> at = new TreeMap<>();
            for (int v = from; v <= to; v++) {
                double told = 0.0;
                for (int item : members) {
                    told += items.get(item).tells(v);
                }
                at.putIfAbsent(told, v);
            }
            return at.lastEntry().getValue();
        }

        int topic(int topic, int least, int most) {
            among(topic, 0, 3);
            among(least, 0, 6);
            among(most, least, 6);
            int before = told(10 + topic);
            topics[topic] = new int[] {least, most};
            return before;
        }

        int rule(int what, int v) {
            among(what, 0, 2);
            among(v, what == 0 ? 1 : 0, new int[] {6, 240, 999}[what]);
            int before = limits[what];
            limits[what] = v;
            return before;
        }

        int told(int what) {
            among(what, 0, 33);
            int tens = what / 10;
            int ones = what % 10;
            among(ones, 0, tens == 0 ? 2 : 3);
            return switch (tens) {
                case 0 -> limits[ones];
                case 1 -> topics[ones][0] * 10 + topics[ones][1];
                case 2 -> aims[ones][0];
                default -> aims[ones][1];
            };
        }

        private boolean isSo(int rule, List<Integer> members) {
            switch (rule) {
                case 1:
                    return members.size() == limits[0];
                case 2:
                    for (int t = 0; t < 4; t++) {
                        int topic = t;
                        long n = members.stream().filter(i -> items.get(i).topic == topic).count();
                        if (n < topics[t][0] || n > topics[t][1]) {
                            return false;
                        }
                    }
                    return true;
                case 3:
                    return members.stream().mapToInt(i -> items.get(i).minutes).sum() <= limits[1];
                case 4:
                    return enemies.stream().noneMatch(members::containsAll);
                case 5:
                    return members.stream().filter(i -> items.get(i).text >= 0)
                            .collect(Collectors.groupingBy(i -> items.get(i).text, Collectors.counting()))
                            .values().stream().noneMatch(n -> n == 1);
                default:
                    return members.stream().allMatch(i -> items.get(i).used < limits[2]);
            }
        }

        private int broken(int set, int spared) {
            List<Integer> members = members(set);
            return IntStream.rangeClosed(1, 6).filter(r -> r != spared && !isSo(r, members)).findFirst().orElse(0);
        }

        List<Integer> allPapers(int spared) {
            List<Integer> sets = new ArrayList<>();
            for (int set = 0; set < 1 << items.size(); set++) {
                if (broken(set, spared) == 0) {
                    sets.add(set);
                }
            }
            return sets;
        }

        int against(int set) {
            return broken(set, 0);
        }

        int papers() {
            return allPapers(0).size();
        }

        int without(int rule) {
            among(rule, 1, 6);
            return allPapers(rule).size();
        }

        int best() {
            List<Integer> papers = allPapers(0);
            check(!papers.isEmpty(), NONE);
            return papers.stream().min(Comparator.<Integer>comparingDouble(s -> -valueOf(s))
                    .thenComparing(s -> s)).get();
        }

        int rank(int set) {
            double value = valueOf(set);
            return (int) allPapers(0).stream().filter(s -> valueOf(s) > value).count();
        }

        int swap(int set, int item) {
            List<Integer> members = members(set);
            get(item);
            check(broken(set, 0) == 0, STATE);
            check(members.contains(item), KIND);
            TreeMap<Double, Integer> found = new TreeMap<>();
            for (int other = 0; other < items.size(); other++) {
                int changed = set - (1 << item) + (1 << other);
                if (!members.contains(other) && broken(changed, 0) == 0) {
                    found.putIfAbsent(valueOf(changed), other);
                }
            }
            check(!found.isEmpty(), NONE);
            return found.lastEntry().getValue();
        }

        /** FIRST, SECOND, or nothing. */
        private int[] bothForms() {
            List<Integer> papers = allPapers(0);
            Map<Integer, Double> values = papers.stream().collect(Collectors.toMap(s -> s, this::valueOf));
            int[] forms = null;
            double most = 0.0;
            for (int second : papers) {
                for (int first : papers) {
                    if (first < second && (first & second) == 0) {
                        double lesser = Math.min(values.get(first), values.get(second));
                        boolean earlier = forms != null && lesser == most
                                && (first < forms[0] || first == forms[0] && second < forms[1]);
                        if (forms == null || lesser > most || earlier) {
                            forms = new int[] {first, second};
                            most = lesser;
                        }
                    }
                }
            }
            return forms;
        }

        int forms(int what) {
            among(what, 0, 1);
            int[] forms = bothForms();
            check(forms != null, NONE);
            return forms[what];
        }

        long gap() {
            int[] forms = bothForms();
            check(forms != null, NONE);
            double one = valueOf(forms[0]);
            double other = valueOf(forms[1]);
            return Double.doubleToLongBits(Math.max(one, other) - Math.min(one, other));
        }

        int use(int set) {
            List<Integer> members = members(set);
            check(broken(set, 0) == 0, STATE);
            members.forEach(i -> items.get(i).used++);
            return (int) items.stream().filter(i -> i.used >= limits[2]).count();
        }

        int uses(int n) {
            among(n, 1, 20);
            int done = 0;
            while (done < n && papers() > 0) {
                use(best());
                done++;
            }
            return done;
        }

        private int drawn() {
            z = z * 1103515245 + 12345;
            return z >>> 8;
        }

        int loose(int n) {
            among(n, 1, 20);
            int done = 0;
            for (int i = 0; i < n; i++) {
                int first = drawn() % 4096 % (1 << items.size());
                int second = drawn() % 4096 % (1 << items.size());
                boolean one = broken(first, 0) == 0;
                boolean other = broken(second, 0) == 0;
                if (one && other) {
                    use(valueOf(first) >= valueOf(second) ? first : second);
                } else if (one || other) {
                    use(one ? first : second);
                }
                done += one || other ? 1 : 0;
            }
            return done;
        }

        int seed(int v) {
            int before = z;
            z = v;
            return before;
        }

        private int standing(int shelf) {
            return (int) Arrays.stream(shelves[shelf]).filter(i -> i != null).count();
        }

        int shelf(int shelf, int kind) {
            among(shelf, 0, 3);
            among(kind, 0, 5);
            int stood = standing(shelf);
            shelves[shelf] = (Item[]) Array.newInstance(Item.of(kind).getClass(), 6);
            return stood;
        }

        int lay(int shelf, int place, int item) {
            among(shelf, 0, 3);
            among(place, 0, 5);
            Item it = get(item);
            int before = shelves[shelf][place] == null ? -1 : numbers[shelf][place];
            try {
                shelves[shelf][place] = it;
            } catch (ArrayStoreException e) {
                throw new Finding(KIND);
            }
            numbers[shelf][place] = item;
            return before;
        }

        int stands(int shelf, int place, int what) {
            among(shelf, 0, 3);
            among(place, 0, 5);
            among(what, 0, 1);
            check(shelves[shelf][place] != null, MISSING);
            return what == 0 ? numbers[shelf][place] : shelves[shelf][place].kind();
        }

        int moves(int shelf, int other) {
            among(shelf, 0, 3);
            among(other, 0, 3);
            int n = 0;
            try {
                for (; n < 6; n++) {
                    shelves[other][n] = shelves[shelf][n];
                    numbers[other][n] = numbers[shelf][n];
                }
            } catch (ArrayStoreException e) {
                return n;
            }
            return n;
        }

        int sheet(int s, int sort, int n) {
            among(s, 0, 3);
            among(sort, -1, 2);
            if (sort == -1) {
                sheets[s] = null;
                return 0;
            }
            check(n >= 0, SIZE);
            among(n, 0, 40);
            sheets[s] = sort == 0 ? new int[n] : sort == 1 ? new float[n] : new double[n];
            return n;
        }

        private int length(int s) {
            return Array.getLength(sheets[s]);
        }

        private void there(int... which) {
            for (int s : which) {
                among(s, 0, 3);
            }
            for (int s : which) {
                check(sheets[s] != null, MISSING);
            }
        }

        int write(int s, int i, int v) {
            there(s);
            among(i, 0, length(s) - 1);
            if (sheets[s] instanceof int[] ints) {
                ints[i] = v;
            } else if (sheets[s] instanceof float[] floats) {
                floats[i] = v / 8f;
            } else {
                ((double[]) sheets[s])[i] = v / 8.0;
            }
            return 1;
        }

        long item(int s, int i) {
            there(s);
            among(i, 0, length(s) - 1);
            if (sheets[s] instanceof int[] ints) {
                return ints[i];
            }
            if (sheets[s] instanceof float[] floats) {
                return Float.floatToIntBits(floats[i]);
            }
            return Double.doubleToLongBits(((double[]) sheets[s])[i]);
        }

        int copy(int s, int i, int t, int j, int n) {
            there(s, t);
            check(sheets[s].getClass() == sheets[t].getClass(), KIND);
            check(i >= 0 && j >= 0 && n >= 0, BEYOND);
            check((long) i + n <= length(s) && (long) j + n <= length(t), BEYOND);
            System.arraycopy(sheets[s], i, sheets[t], j, n);
            return n;
        }

        private void put(int s, int i, double d) {
            if (sheets[s] instanceof int[] ints) {
                ints[i] = (int) d;
            } else if (sheets[s] instanceof float[] floats) {
                floats[i] = (float) d;
            } else {
                ((double[]) sheets[s])[i] = d;
            }
        }

        int casts(int s, int t) {
            there(s, t);
            int n = Math.min(length(s), length(t));
            for (int i = 0; i < n; i++) {
                if (sheets[s] instanceof int[] ints && sheets[t] instanceof float[] floats) {
                    floats[i] = (float) ints[i];
                } else if (sheets[s] instanceof float[] floats && sheets[t] instanceof int[] ints) {
                    ints[i] = (int) floats[i];
                } else {
                    put(t, i, Array.getDouble(sheets[s], i));
                }
            }
            return n;
        }

        int table(int s, int item, int from, int step) {
            among(s, 0, 3);
            Item it = get(item);
            among(from, -64, 64);
            among(step, -64, 64);
            there(s);
            int n = 0;
            for (int v = from; n < length(s) && Math.abs(v) <= 64; v += step) {
                put(s, n++, it.tells(v));
            }
            return n;
        }

        int rests(int s, int v) {
            among(s, 0, 3);
            among(v, 1, 800);
            there(s);
            for (int i = 0; i < length(s); i++) {
                if (sheets[s] instanceof int[] ints) {
                    ints[i] %= v;
                } else if (sheets[s] instanceof float[] floats) {
                    floats[i] %= v / 8f;
                } else {
                    ((double[]) sheets[s])[i] %= v / 8.0;
                }
            }
            return length(s);
        }

        long sum(int s) {
            there(s);
            double sum = 0.0;
            for (int i = 0; i < length(s); i++) {
                sum += Array.getDouble(sheets[s], i);
            }
            return Double.doubleToLongBits(sum);
        }

        private void take(Oracle other) {
            items = other.items.stream().map(i -> i.like(i.kind())).collect(Collectors.toCollection(ArrayList::new));
            enemies = new HashSet<>(other.enemies);
            aims = Arrays.stream(other.aims).map(int[]::clone).toArray(int[][]::new);
            topics = Arrays.stream(other.topics).map(int[]::clone).toArray(int[][]::new);
            limits = other.limits.clone();
            z = other.z;
        }

        int image() {
            kept = new Oracle();
            kept.take(this);
            return 1;
        }

        int back() {
            check(kept != null, NONE);
            take(kept);
            return items.size();
        }

        int count(int what) {
            among(what, 0, 5);
            return switch (what) {
                case 0 -> items.size();
                case 1 -> enemies.size();
                case 2 -> items.stream().mapToInt(i -> i.used).sum();
                case 3 -> items.stream().mapToInt(i -> i.minutes).sum();
                case 4 -> z;
                default -> IntStream.range(0, 4).map(this::standing).sum();
            };
        }

        int status(int which) {
            among(which, -1, 7);
            return which == -1 ? Arrays.stream(findings).sum() : findings[which];
        }
    }
}
