import java.util.ArrayList;
import java.util.List;
import java.util.TreeSet;

/** Long mixed runs of all calls, each answer held against sets of the Java library. */
public final class ModelTest {
    private static final int RUNS = 400;
    private static final int CALLS = 512;
    private static final String[] NAMES = {"add", "remove", "range", "combine", "shift", "clear",
        "tidy", "has", "size", "rank", "select", "next", "ranges", "common", "within", "countIn"};
    // clear is rare, so that sets have time to grow.
    private static final int[] WEIGHTS = {6, 4, 5, 4, 4, 1, 2, 3, 2, 3, 3, 3, 3, 3, 3, 3};
    private static final int[] EDGES = {0, 1, 2, 31, 32, 63, 64, 65, 127, 128, 511, 512, 513, 1022,
        1023, 1024};
    private static final int[] WRONG = {-1, -2, 4, 1025, 2047, 2048, -1024, Integer.MIN_VALUE,
        Integer.MAX_VALUE};

    private static final Checks checks = new Checks("ModelTest");
    private static long seed = 20261115;

    private final List<TreeSet<Integer>> model = new ArrayList<>();
    private final ContainerSets sets = new ContainerSets();

    private ModelTest() {
        for (int s = 0; s < 4; s++) {
            model.add(new TreeSet<>());
        }
    }

    public static void main(String[] args) {
        for (int run = 0; run < RUNS; run++) {
            ModelTest test = new ModelTest();
            for (int call = 0; call < CALLS; call++) {
                test.step(run, call);
            }
        }
        checks.end();
    }

    /** A fixed sequence, so that every run of this test makes the same calls. */
    private static int pick(int bound) {
        seed = seed * 6364136223846793005L + 1442695040888963407L;
        return (int) ((seed >>> 33) % bound);
    }

    private static int pickCall() {
        int sum = 0;
        for (int weight : WEIGHTS) {
            sum += weight;
        }
        int left = pick(sum);
        int call = 0;
        while (left >= WEIGHTS[call]) {
            left -= WEIGHTS[call];
            call++;
        }
        return call;
    }

    private static int pickSet() {
        return pick(40) == 0 ? WRONG[pick(WRONG.length)] : pick(4);
    }

    private static int pickNumber() {
        int kind = pick(40);
        if (kind == 0) {
            return WRONG[pick(WRONG.length)];
        }
        return kind < 12 ? EDGES[pick(EDGES.length)] : pick(1024);
    }

    private static int pickEnds() {
        int kind = pick(40);
        if (kind == 0) {
            return WRONG[pick(WRONG.length)];
        }
        if (kind == 1) {
            return Checks.ends(pick(2048), pick(2048));
        }
        int a = kind < 12 ? EDGES[pick(EDGES.length)] : pick(1025);
        int b = kind % 2 == 0 ? Math.min(1024, a + pick(70)) : pick(1025);
        return Checks.ends(a, b) + (pick(4) == 0 ? pick(1024) << 22 : 0);
    }

    private static int pickShift() {
        int kind = pick(10);
        if (kind == 0) {
            return pickNumber();
        }
        return kind < 5 ? pick(130) - 65 : pick(2049) - 1024;
    }

    private static int pickHow(int ways) {
        return pick(30) == 0 ? WRONG[pick(WRONG.length)] : pick(ways);
    }

    private void step(int run, int number) {
        int call = pickCall();
        int s = pickSet();
        int t = pickSet();
        int[] a = arguments(call, s, t);
        StringBuilder text = new StringBuilder("run " + run + ", call " + number + ": " + NAMES[call]);
        for (int argument : a) {
            text.append(' ').append(argument);
        }
        checks.due(text.toString(), answer(call, a), due(call, a));
    }

    private static int[] arguments(int call, int s, int t) {
        switch (NAMES[call]) {
            case "range": return new int[] {s, pickEnds(), pickHow(3)};
            case "combine": return new int[] {pickSet(), s, t, pickHow(4)};
            case "shift": return new int[] {s, pickShift()};
            case "clear": case "tidy": case "size": case "ranges": return new int[] {s};
            case "common": case "within": return new int[] {s, t};
            case "countIn": return new int[] {s, pickEnds()};
            case "select": return new int[] {s, pick(2) == 0 ? pick(20) : pickNumber()};
            default: return new int[] {s, pickNumber()};
        }
    }

    private int answer(int call, int[] a) {
        switch (NAMES[call]) {
            case "add": return sets.add(a[0], a[1]);
            case "remove": return sets.remove(a[0], a[1]);
            case "range": return sets.range(a[0], a[1], a[2]);
            case "combine": return sets.combine(a[0], a[1], a[2], a[3]);
            case "shift": return sets.shift(a[0], a[1]);
            case "clear": return sets.clear(a[0]);
            case "tidy": return sets.tidy(a[0]);
            case "has": return sets.has(a[0], a[1]) ? 1 : 0;
            case "size": return sets.size(a[0]);
            case "rank": return sets.rank(a[0], a[1]);
            case "select": return sets.select(a[0], a[1]);
            case "next": return sets.next(a[0], a[1]);
            case "ranges": return sets.ranges(a[0]);
            case "common": return sets.common(a[0], a[1]);
            case "within": return sets.within(a[0], a[1]) ? 1 : 0;
            default: return sets.countIn(a[0], a[1]);
        }
    }

    private int due(int call, int[] a) {
        String name = NAMES[call];
        boolean truth = name.equals("has") || name.equals("within");
        int setArguments = name.equals("combine") ? 3
                : name.equals("common") || name.equals("within") ? 2 : 1;
        for (int i = 0; i < setArguments; i++) {
            if (a[i] < 0 || a[i] > 3) {
                return truth ? 0 : ContainerSets.BAD_SET;
            }
        }
        if (!numbersAreGood(name, a)) {
            return truth ? 0 : ContainerSets.BAD_NUMBER;
        }
        return call < 7 ? dueOfChange(name, a) : dueOfQuestion(name, a);
    }

    private static boolean between(int x, int least, int most) {
        return least <= x && x <= most;
    }

    private static boolean endsAreGood(int ends) {
        return lower(ends) <= 1024 && upper(ends) <= 1024;
    }

    /** By division, where the class takes bits. */
    private static int lower(int ends) {
        return Math.floorMod(ends, 2048);
    }

    private static int upper(int ends) {
        return Math.floorMod(Math.floorDiv(ends, 2048), 2048);
    }

    private static boolean numbersAreGood(String name, int[] a) {
        switch (name) {
            case "add": case "remove": case "has": case "next": return between(a[1], 0, 1023);
            case "range": return endsAreGood(a[1]) && between(a[2], 0, 2);
            case "combine": return between(a[3], 0, 3);
            case "shift": return between(a[1], -1023, 1023);
            case "rank": return between(a[1], 0, 1024);
            case "countIn": return endsAreGood(a[1]);
            default: return true;
        }
    }

    private int dueOfChange(String name, int[] a) {
        TreeSet<Integer> set = model.get(a[0]);
        int before = set.size();
        switch (name) {
            case "add": return set.add(a[1]) ? 1 : 0;
            case "remove": return set.remove(a[1]) ? 1 : 0;
            case "range": changeRange(set, lower(a[1]), upper(a[1]), a[2]); return set.size();
            case "combine": model.set(a[0], combined(a[1], a[2], a[3])); return model.get(a[0]).size();
            case "shift": model.set(a[0], shifted(set, a[1])); return model.get(a[0]).size();
            case "clear": set.clear(); return before;
            default: return 0;
        }
    }

    private static void changeRange(TreeSet<Integer> set, int a, int b, int how) {
        for (int x = a; x < b; x++) {
            if (how == 0 || (how == 2 && !set.contains(x))) {
                set.add(x);
            } else {
                set.remove(x);
            }
        }
    }

    private TreeSet<Integer> combined(int s, int t, int how) {
        TreeSet<Integer> made = new TreeSet<>(model.get(s));
        TreeSet<Integer> both = new TreeSet<>(model.get(s));
        both.retainAll(model.get(t));
        if (how == 1) {
            return both;
        }
        if (how == 2) {
            made.removeAll(both);
            return made;
        }
        made.addAll(model.get(t));
        if (how == 3) {
            made.removeAll(both);
        }
        return made;
    }

    private static TreeSet<Integer> shifted(TreeSet<Integer> set, int by) {
        TreeSet<Integer> made = new TreeSet<>();
        for (int x : set) {
            if (between(x + by, 0, 1023)) {
                made.add(x + by);
            }
        }
        return made;
    }

    private int dueOfQuestion(String name, int[] a) {
        TreeSet<Integer> set = model.get(a[0]);
        switch (name) {
            case "has": return set.contains(a[1]) ? 1 : 0;
            case "size": return set.size();
            case "rank": return set.headSet(a[1]).size();
            case "select": return between(a[1], 0, set.size() - 1)
                    ? new ArrayList<>(set).get(a[1]) : ContainerSets.NONE;
            case "next": return set.ceiling(a[1]) == null ? ContainerSets.NONE : set.ceiling(a[1]);
            case "ranges": return (int) set.stream().filter(x -> !set.contains(x + 1)).count();
            case "common": return (int) set.stream().filter(model.get(a[1])::contains).count();
            case "within": return model.get(a[1]).containsAll(set) ? 1 : 0;
            default: return (int) set.stream()
                    .filter(x -> x >= lower(a[1]) && x < upper(a[1])).count();
        }
    }
}
