/** Promises 9 to 17: the calls that change nothing. */
public final class AskingCallsTest {
    private static final int[] NO_ENDS = {-1, 1025, Checks.LEAST, Checks.MOST};

    private static final Checks checks = new Checks("AskingCallsTest");

    public static void main(String[] args) {
        has();
        size();
        rank();
        select();
        next();
        ranges();
        common();
        within();
        countIn();
        changeNothing();
        checks.end();
    }

    /** Set 0 is empty, set 1 holds 0, 5, 6, 7, 640, 1023, set 2 holds 5, 7, set 3 is full. */
    private static ContainerSets sample() {
        ContainerSets sets = new ContainerSets();
        for (int x : new int[] {0, 5, 6, 7, 640, 1023}) {
            sets.add(1, x);
        }
        sets.add(2, 5);
        sets.add(2, 7);
        sets.range(3, Checks.ends(0, 1024), 0);
        return sets;
    }

    private static void holdsTheSample(String when, ContainerSets sets) {
        checks.holds(when, sets, 0);
        checks.holds(when, sets, 1, 0, 5, 6, 7, 640, 1023);
        checks.holds(when, sets, 2, 5, 7);
        checks.due(when + ": size(3)", sets.size(3), 1024);
    }

    private static void has() {
        ContainerSets sets = sample();
        for (int x : new int[] {0, 5, 6, 7, 640, 1023}) {
            checks.due("has(1, " + x + ")", sets.has(1, x), true);
            checks.due("has(0, " + x + ")", sets.has(0, x), false);
        }
        for (int x : new int[] {1, 4, 8, 639, 641, 1022}) {
            checks.due("has(1, " + x + ")", sets.has(1, x), false);
            checks.due("has(3, " + x + ")", sets.has(3, x), true);
        }
        for (int x : Checks.NO_NUMBERS) {
            for (int s = 0; s < 4; s++) {
                checks.due("has(" + s + ", " + x + ")", sets.has(s, x), false);
            }
        }
        for (int s : Checks.NO_SETS) {
            checks.due("has(" + s + ", 5)", sets.has(s, 5), false);
            checks.due("has(" + s + ", -1)", sets.has(s, -1), false);
            checks.due("has(" + s + ", 1024)", sets.has(s, 1024), false);
        }
    }

    private static void size() {
        ContainerSets sets = sample();
        checks.due("size(0)", sets.size(0), 0);
        checks.due("size(1)", sets.size(1), 6);
        checks.due("size(2)", sets.size(2), 2);
        checks.due("size(3)", sets.size(3), 1024);
        for (int s : Checks.NO_SETS) {
            checks.due("size(" + s + ")", sets.size(s), ContainerSets.BAD_SET);
        }
    }

    private static void rank() {
        ContainerSets sets = sample();
        int[][] due = {{0, 0}, {1, 1}, {5, 1}, {6, 2}, {7, 3}, {8, 4}, {640, 4}, {641, 5},
            {1023, 5}, {1024, 6}};
        for (int[] row : due) {
            checks.due("rank(1, " + row[0] + ")", sets.rank(1, row[0]), row[1]);
            checks.due("rank(0, " + row[0] + ")", sets.rank(0, row[0]), 0);
            checks.due("rank(3, " + row[0] + ")", sets.rank(3, row[0]), row[0]);
        }
        for (int x : NO_ENDS) {
            checks.due("rank(1, " + x + ")", sets.rank(1, x), ContainerSets.BAD_NUMBER);
        }
        for (int s : Checks.NO_SETS) {
            checks.due("rank(" + s + ", 5)", sets.rank(s, 5), ContainerSets.BAD_SET);
            checks.due("rank(" + s + ", -1)", sets.rank(s, -1), ContainerSets.BAD_SET);
        }
    }

    private static void select() {
        ContainerSets sets = sample();
        int[] due = {0, 5, 6, 7, 640, 1023};
        for (int k = 0; k < due.length; k++) {
            checks.due("select(1, " + k + ")", sets.select(1, k), due[k]);
        }
        checks.due("select(2, 1)", sets.select(2, 1), 7);
        checks.due("select(3, 1023)", sets.select(3, 1023), 1023);
        checks.due("select(3, 1024)", sets.select(3, 1024), ContainerSets.NONE);
        checks.due("select(2, 2)", sets.select(2, 2), ContainerSets.NONE);
        for (int k : new int[] {-1, 6, 7, Checks.LEAST, Checks.MOST}) {
            checks.due("select(1, " + k + ")", sets.select(1, k), ContainerSets.NONE);
        }
        checks.due("select(0, 0)", sets.select(0, 0), ContainerSets.NONE);
        for (int s : Checks.NO_SETS) {
            checks.due("select(" + s + ", 0)", sets.select(s, 0), ContainerSets.BAD_SET);
            checks.due("select(" + s + ", -1)", sets.select(s, -1), ContainerSets.BAD_SET);
        }
    }

    private static void next() {
        ContainerSets sets = sample();
        int[][] due = {{0, 0}, {1, 5}, {5, 5}, {6, 6}, {8, 640}, {640, 640}, {641, 1023},
            {1023, 1023}};
        for (int[] row : due) {
            checks.due("next(1, " + row[0] + ")", sets.next(1, row[0]), row[1]);
            checks.due("next(3, " + row[0] + ")", sets.next(3, row[0]), row[0]);
            checks.due("next(0, " + row[0] + ")", sets.next(0, row[0]), ContainerSets.NONE);
        }
        checks.due("next(2, 7)", sets.next(2, 7), 7);
        checks.due("next(2, 8)", sets.next(2, 8), ContainerSets.NONE);
        checks.due("next(2, 1023)", sets.next(2, 1023), ContainerSets.NONE);
        for (int x : Checks.NO_NUMBERS) {
            checks.due("next(1, " + x + ")", sets.next(1, x), ContainerSets.BAD_NUMBER);
            checks.due("next(0, " + x + ")", sets.next(0, x), ContainerSets.BAD_NUMBER);
        }
        for (int s : Checks.NO_SETS) {
            checks.due("next(" + s + ", 5)", sets.next(s, 5), ContainerSets.BAD_SET);
            checks.due("next(" + s + ", 1024)", sets.next(s, 1024), ContainerSets.BAD_SET);
        }
    }

    private static void ranges() {
        ContainerSets sets = sample();
        checks.due("ranges(0)", sets.ranges(0), 0);
        checks.due("ranges(1)", sets.ranges(1), 4);
        checks.due("ranges(2)", sets.ranges(2), 2);
        checks.due("ranges(3)", sets.ranges(3), 1);
        sets.add(2, 6);
        checks.due("ranges of a filled gap", sets.ranges(2), 1);
        sets.remove(3, 1023);
        sets.add(0, 0);
        checks.due("sets side by side are not one", sets.ranges(3), 1);
        checks.due("ranges of 0 alone", sets.ranges(0), 1);
        for (int s : Checks.NO_SETS) {
            checks.due("ranges(" + s + ")", sets.ranges(s), ContainerSets.BAD_SET);
        }
        // Set 0 ends where set 1 begins: a range must not reach across.
        ContainerSets touching = new ContainerSets();
        touching.add(0, 1023);
        touching.add(1, 0);
        checks.due("ranges of 1023 alone", touching.ranges(0), 1);
        checks.due("ranges of the next set's 0", touching.ranges(1), 1);
        ContainerSets even = new ContainerSets();
        for (int x = 0; x < 400; x += 2) {
            even.add(0, x);
        }
        checks.due("ranges of 200 even numbers", even.ranges(0), 200);
    }

    private static void common() {
        ContainerSets sets = sample();
        checks.due("common(1, 2)", sets.common(1, 2), 2);
        checks.due("common(2, 1)", sets.common(2, 1), 2);
        checks.due("common(1, 3)", sets.common(1, 3), 6);
        checks.due("common(1, 1)", sets.common(1, 1), 6);
        checks.due("common(3, 3)", sets.common(3, 3), 1024);
        checks.due("common(0, 3)", sets.common(0, 3), 0);
        checks.due("common(0, 0)", sets.common(0, 0), 0);
        sets.add(2, 8);
        checks.due("common(1, 2) with a lone 8", sets.common(1, 2), 2);
        for (int s : Checks.NO_SETS) {
            checks.due("common(" + s + ", 1)", sets.common(s, 1), ContainerSets.BAD_SET);
            checks.due("common(1, " + s + ")", sets.common(1, s), ContainerSets.BAD_SET);
            checks.due("common(" + s + ", " + s + ")", sets.common(s, s), ContainerSets.BAD_SET);
        }
    }

    private static void within() {
        ContainerSets sets = sample();
        checks.due("within(2, 1)", sets.within(2, 1), true);
        checks.due("within(1, 2)", sets.within(1, 2), false);
        checks.due("within(1, 1)", sets.within(1, 1), true);
        checks.due("within(1, 3)", sets.within(1, 3), true);
        checks.due("within(3, 1)", sets.within(3, 1), false);
        checks.due("within(0, 2)", sets.within(0, 2), true);
        checks.due("within(2, 0)", sets.within(2, 0), false);
        checks.due("within(0, 0)", sets.within(0, 0), true);
        sets.add(2, 1022);
        checks.due("within(2, 1) with a lone 1022", sets.within(2, 1), false);
        sets.remove(3, 0);
        checks.due("within(1, 3) but for 0", sets.within(1, 3), false);
        for (int s : Checks.NO_SETS) {
            checks.due("within(" + s + ", 3)", sets.within(s, 3), false);
            checks.due("within(0, " + s + ")", sets.within(0, s), false);
            checks.due("within(" + s + ", " + s + ")", sets.within(s, s), false);
        }
    }

    private static void countIn() {
        ContainerSets sets = sample();
        int[][] due = {{0, 1024, 6}, {0, 1023, 5}, {1, 1024, 5}, {5, 8, 3}, {5, 7, 2}, {6, 8, 2},
            {0, 0, 0}, {0, 1, 1}, {1023, 1024, 1}, {1024, 1024, 0}, {8, 640, 0}, {8, 5, 0},
            {1024, 0, 0}};
        for (int[] row : due) {
            int rowEnds = Checks.ends(row[0], row[1]);
            String call = "countIn(s, " + row[0] + " to " + row[1] + ")";
            checks.due(call, sets.countIn(1, rowEnds), row[2]);
            checks.due(call + " of none", sets.countIn(0, rowEnds), 0);
            checks.due(call + " of all", sets.countIn(3, rowEnds), Math.max(0, row[1] - row[0]));
            checks.due(call + " with bits 22 to 31", sets.countIn(1, rowEnds - (1 << 22)), row[2]);
            checks.due(call + " with bit 22", sets.countIn(1, rowEnds + (1 << 22)), row[2]);
        }
        int[] bad = {Checks.ends(1025, 0), Checks.ends(1025, 1024), Checks.ends(0, 1025),
            Checks.ends(1024, 1025), Checks.ends(2047, 2047), Checks.ends(2047, 3), -1};
        for (int badEnds : bad) {
            checks.due("countIn(1, " + badEnds + ")",
                    sets.countIn(1, badEnds), ContainerSets.BAD_NUMBER);
        }
        for (int s : Checks.NO_SETS) {
            checks.due("countIn(" + s + ", 0 to 9)",
                    sets.countIn(s, Checks.ends(0, 9)), ContainerSets.BAD_SET);
            checks.due("countIn(" + s + ", -1)", sets.countIn(s, -1), ContainerSets.BAD_SET);
        }
    }

    private static void changeNothing() {
        ContainerSets sets = sample();
        for (int s = -1; s <= 4; s++) {
            for (int x : new int[] {-1, 0, 6, 1024}) {
                sets.has(s, x);
                sets.rank(s, x);
                sets.select(s, x);
                sets.next(s, x);
                sets.countIn(s, Checks.ends(2, 9) + x);
            }
            for (int t = -1; t <= 4; t++) {
                sets.common(s, t);
                sets.within(s, t);
            }
            sets.size(s);
            sets.ranges(s);
        }
        holdsTheSample("after calls that change nothing", sets);
    }
}
