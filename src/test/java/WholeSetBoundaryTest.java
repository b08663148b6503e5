import java.util.Arrays;

/** The boundary cases of promises 4 to 8, a test of its own for each sentence. */
public final class WholeSetBoundaryTest {
    private static final int BAD_SET = ContainerSets.BAD_SET;
    private static final int BAD_NUMBER = ContainerSets.BAD_NUMBER;
    private static final int ALL = Checks.ends(0, 1024);

    /** Sets as ranges, from empty to full: pairs a, b in rising order that do not touch. */
    private static final int[][] SHAPES = {{}, {0, 1}, {1023, 1024}, {0, 1, 1023, 1024}, {0, 512},
        {512, 1024}, {1, 1023}, {3, 4, 63, 65, 511, 513}, {0, 1024}};

    /** Changes of set 1, or of another one by it. */
    private static final Trial.Call[] CHANGES = {
        sets -> sets.add(1, 0), sets -> sets.add(1, 1023), sets -> sets.remove(1, 0),
        sets -> sets.remove(1, 1023), sets -> sets.range(1, ALL, 0), sets -> sets.range(1, ALL, 1),
        sets -> sets.range(1, Checks.ends(3, 600), 2), sets -> sets.combine(2, 1, 3, 0),
        sets -> sets.combine(1, 3, 1, 1), sets -> sets.combine(1, 1, 3, 2),
        sets -> sets.combine(3, 1, 1, 3), sets -> sets.shift(1, 1), sets -> sets.shift(1, -1023),
        sets -> sets.clear(1)};

    private static final Checks checks = new Checks("WholeSetBoundaryTest");
    private static final Refused refused = new Refused(checks);

    public static void main(String[] args) {
        range();
        combine();
        shift();
        clear();
        tidy();
        checks.end();
    }

    private static Trial fresh() {
        return new Trial(checks);
    }

    private static Trial full(int s) {
        return fresh().with(s, 0, 1024);
    }

    private static void range() {
        checks.sentence("Promise 4", "Puts a range in (how 0)", WholeSetBoundaryTest::rangeIn);
        checks.sentence("Promise 4", "takes it out (1)", WholeSetBoundaryTest::rangeOut);
        checks.sentence("Promise 4", "turns round for each of its numbers whether it is in (2)",
                WholeSetBoundaryTest::rangeTurned);
        checks.sentence("Promise 4", "BAD_SET", WholeSetBoundaryTest::rangeOfNoSet);
        checks.sentence("Promise 4", "a or b not in 0 to 1024", WholeSetBoundaryTest::rangeOfNoEnds);
        checks.sentence("Promise 4", "or how not in 0 to 2: BAD_NUMBER",
                WholeSetBoundaryTest::rangeOfNoHow);
        checks.sentence("Promise 4", "Else answers how many numbers the set has now.",
                WholeSetBoundaryTest::rangeCounts);
        checks.sentence("Promise 4", "'ends' is a + 2048 * b (bits 0 to 10 and 11 to 21",
                WholeSetBoundaryTest::bitsOfEnds);
        checks.sentence("Promise 4", "other bits are not looked at",
                WholeSetBoundaryTest::otherBitsOfEnds);
    }

    private static void rangeIn() {
        for (int[] shape : SHAPES) {
            Trial all = fresh().with(1, shape);
            all.range(1, ALL, 0);
            all.holds(1, 0, 1024);
            all.holds(0);
            all.holds(2);
        }
        Trial bridge = fresh().with(1, 0, 10, 20, 30);
        bridge.range(1, Checks.ends(10, 20), 0);
        bridge.holds(1, 0, 30);
        bridge.range(1, Checks.ends(1023, 1024), 0);
        bridge.holds(1, 0, 30, 1023, 1024);
        bridge.range(1, Checks.ends(5, 25), 0);
        bridge.holds(1, 0, 30, 1023, 1024);
    }

    private static void rangeOut() {
        for (int[] shape : SHAPES) {
            Trial all = State.FULL.made(checks);
            all.clear(1);
            all.with(1, shape);
            all.range(1, ALL, 1);
            all.holds(1);
            all.holds(0, 0, 1024);
            all.holds(2, 0, 1024);
        }
        Trial cut = full(1);
        cut.range(1, Checks.ends(0, 1), 1);
        cut.holds(1, 1, 1024);
        cut.range(1, Checks.ends(1023, 1024), 1);
        cut.holds(1, 1, 1023);
        cut.range(1, Checks.ends(10, 20), 1);
        cut.holds(1, 1, 10, 20, 1023);
        cut.range(1, Checks.ends(5, 20), 1);
        cut.holds(1, 1, 5, 20, 1023);
    }

    private static void rangeTurned() {
        Trial sets = State.MIXED.made(checks);
        sets.range(0, ALL, 2);
        sets.holds(0, 0, 1024);
        sets.range(1, ALL, 2);
        sets.holds(1, 1, 5, 8, 640, 641, 1023);
        sets.range(2, Checks.ends(6, 8), 2);
        sets.holds(2, 5, 7);
        sets.range(3, ALL, 2);
        sets.holds(3);
        sets.range(3, Checks.ends(1023, 1024), 2);
        sets.range(3, Checks.ends(0, 1), 2);
        sets.holds(3, 0, 1, 1023, 1024);
        Trial twice = State.MIXED.made(checks);
        for (int s = 0; s < 4; s++) {
            twice.range(s, Checks.ends(6, 1023), 2);
            twice.range(s, Checks.ends(6, 1023), 2);
        }
        State.MIXED.holdsIn(twice);
    }

    private static void rangeOfNoSet() {
        refused.with(Wrong.SETS, BAD_SET, (sets, s) -> sets.range(s, ALL, 0),
                (sets, s) -> sets.range(s, ALL, 1), (sets, s) -> sets.range(s, ALL, 2),
                (sets, s) -> sets.range(s, Checks.ends(9, 3), 0));
    }

    private static void rangeOfNoEnds() {
        refused.onEverySet(Wrong.ENDS, BAD_NUMBER, (sets, s, ends) -> sets.range(s, ends, 0),
                (sets, s, ends) -> sets.range(s, ends, 1), (sets, s, ends) -> sets.range(s, ends, 2));
        for (int bad = 1025; bad <= 2047; bad++) {
            fresh().range(0, Checks.ends(bad, 1024), 0).is(BAD_NUMBER);
            fresh().range(0, Checks.ends(0, bad), 0).is(BAD_NUMBER);
        }
        full(1).range(1, Checks.ends(1024, 1024), 1).is(1024);
        full(1).range(1, Checks.ends(0, 1024), 1).is(0);
    }

    private static void rangeOfNoHow() {
        refused.onEverySet(Wrong.RANGE_HOWS, BAD_NUMBER, (sets, s, how) -> sets.range(s, ALL, how),
                (sets, s, how) -> sets.range(s, Checks.ends(7, 7), how),
                (sets, s, how) -> sets.range(s, Checks.ends(0, 1025), how));
        fresh().range(0, ALL, 0).is(1024);
        fresh().range(0, ALL, 2).is(1024);
    }

    private static void rangeCounts() {
        Trial sets = fresh();
        sets.range(2, Checks.ends(0, 0), 0).is(0);
        sets.range(2, Checks.ends(1023, 1024), 0).is(1);
        sets.range(2, Checks.ends(1023, 1024), 0).is(1);
        sets.range(2, ALL, 2).is(1023);
        sets.range(2, ALL, 0).is(1024);
        sets.range(2, Checks.ends(5, 5), 1).is(1024);
        sets.range(2, Checks.ends(1, 1023), 1).is(2);
        sets.range(2, Checks.ends(1, 1023), 1).is(2);
        sets.range(2, Checks.ends(0, 4), 2).is(4);
        sets.range(2, ALL, 1).is(0);
        sets.range(2, ALL, 1).is(0);
    }

    private static void bitsOfEnds() {
        for (int bit = 0; bit <= 10; bit++) {
            int end = 1 << bit;
            Trial fromA = fresh();
            fromA.range(1, end + ALL, 0).is(1024 - end);
            Trial toB = fresh();
            toB.range(1, end << 11, 0).is(end);
            toB.holds(1, 0, end);
        }
        Trial both = fresh();
        both.range(1, 1023 + 2048 * 1024, 0).is(1);
        both.holds(1, 1023, 1024);
        fresh().range(1, 2047, 0).is(BAD_NUMBER);
        fresh().range(1, 2047 << 11, 0).is(BAD_NUMBER);
    }

    private static void otherBitsOfEnds() {
        int high = 0;
        for (int bit = 22; bit <= 31; bit++) {
            high |= 1 << bit;
            for (int other : new int[] {1 << bit, high}) {
                Trial sets = fresh();
                sets.range(1, Checks.ends(5, 9) | other, 0).is(4);
                sets.holds(1, 5, 9);
                sets.range(1, Checks.ends(0, 6) | other, 2).is(8);
                sets.holds(1, 0, 5, 6, 9);
                sets.range(1, ALL | other, 1).is(0);
                sets.range(1, Checks.ends(9, 5) | other, 0).is(0);
                sets.range(1, Checks.ends(1025, 5) | other, 0).is(BAD_NUMBER);
                sets.range(1, Checks.ends(0, 1025) | other, 0).is(BAD_NUMBER);
                sets.holds(1);
            }
        }
    }

    private static void combine() {
        checks.sentence("Promise 5", "the numbers in s or t (how 0)",
                () -> combineOfAllShapes(0));
        checks.sentence("Promise 5", "in both (1)", () -> combineOfAllShapes(1));
        checks.sentence("Promise 5", "in s and not in t (2)", () -> combineOfAllShapes(2));
        checks.sentence("Promise 5", "in just one (3)", () -> combineOfAllShapes(3));
        checks.sentence("Promise 5", "Set 'to' becomes", WholeSetBoundaryTest::combineOverOldNumbers);
        checks.sentence("Promise 5", "BAD_SET", WholeSetBoundaryTest::combineOfNoSet);
        checks.sentence("Promise 5", "how not in 0 to 3: BAD_NUMBER",
                WholeSetBoundaryTest::combineOfNoHow);
        checks.sentence("Promise 5", "Else answers how many numbers it has.",
                WholeSetBoundaryTest::combineCounts);
    }

    /** Every pair of shapes, into a set of its own, into s, into t, and s with itself. */
    private static void combineOfAllShapes(int how) {
        for (int[] first : SHAPES) {
            for (int[] second : SHAPES) {
                boolean[] want = joined(first, second, how);
                for (int to = 0; to < 3; to++) {
                    Trial sets = fresh().with(0, first).with(1, second).with(2, 6, 700);
                    sets.combine(to, 0, 1, how);
                    holds(sets, to, want);
                    if (to != 0) {
                        sets.holds(0, first);
                    }
                    if (to != 1) {
                        sets.holds(1, second);
                    }
                }
            }
            for (int to = 1; to < 3; to++) {
                Trial alone = fresh().with(1, first);
                alone.combine(to, 1, 1, how);
                holds(alone, to, joined(first, first, how));
            }
        }
    }

    private static boolean[] joined(int[] first, int[] second, int how) {
        boolean[] joined = new boolean[1024];
        for (int x = 0; x < 1024; x++) {
            boolean inS = lies(x, first);
            boolean inT = lies(x, second);
            boolean[] ways = {inS || inT, inS && inT, inS && !inT, inS ^ inT};
            joined[x] = ways[how];
        }
        return joined;
    }

    private static boolean lies(int x, int[] shape) {
        for (int i = 0; i < shape.length; i += 2) {
            if (x >= shape[i] && x < shape[i + 1]) {
                return true;
            }
        }
        return false;
    }

    private static void holds(Trial sets, int s, boolean[] want) {
        int[] pairs = new int[want.length + 1];
        int used = 0;
        boolean before = false;
        for (int x = 0; x <= want.length; x++) {
            boolean now = x < want.length && want[x];
            if (now != before) {
                pairs[used] = x;
                used++;
            }
            before = now;
        }
        sets.holds(s, Arrays.copyOf(pairs, used));
    }

    private static void combineOverOldNumbers() {
        for (int how = 0; how < 4; how++) {
            Trial sets = full(2);
            sets.combine(2, 0, 1, how);
            sets.holds(2);
            sets.with(3, 0, 1024);
            sets.combine(3, 0, 0, how);
            sets.holds(3);
        }
        Trial copy = fresh().with(3, 1023, 1024).with(0, 0, 1);
        copy.combine(0, 3, 3, 0);
        copy.holds(0, 1023, 1024);
    }

    private static void combineOfNoSet() {
        for (int how = 0; how < 4; how++) {
            int way = how;
            refused.with(Wrong.SETS, BAD_SET, (sets, no) -> sets.combine(no, 1, 2, way),
                    (sets, no) -> sets.combine(1, no, 2, way),
                    (sets, no) -> sets.combine(1, 2, no, way),
                    (sets, no) -> sets.combine(no, no, no, way));
        }
    }

    private static void combineOfNoHow() {
        refused.onEverySet(Wrong.COMBINE_HOWS, BAD_NUMBER,
                (sets, to, how) -> sets.combine(to, 1, 3, how),
                (sets, to, how) -> sets.combine(to, to, to, how));
        Trial sets = fresh().with(1, 0, 5).with(2, 3, 9);
        sets.combine(0, 1, 2, 0).is(9);
        sets.combine(0, 1, 2, 3).is(7);
    }

    private static void combineCounts() {
        Trial sets = State.MIXED.made(checks);
        sets.combine(0, 0, 0, 0).is(0);
        sets.combine(0, 1, 2, 0).is(6);
        sets.combine(0, 1, 2, 1).is(2);
        sets.combine(0, 1, 2, 2).is(4);
        sets.combine(0, 2, 1, 2).is(0);
        sets.combine(0, 1, 2, 3).is(4);
        sets.combine(0, 1, 3, 0).is(1024);
        sets.combine(0, 3, 1, 2).is(1018);
        sets.combine(0, 3, 3, 1).is(1024);
        sets.combine(0, 3, 3, 3).is(0);
        sets.combine(3, 3, 1, 3).is(1018);
    }

    private static void shift() {
        checks.sentence("Promise 6", "Every number x in s becomes x + by",
                WholeSetBoundaryTest::shiftByEveryAmount);
        checks.sentence("Promise 6", "those that would leave 0 to 1023 are lost",
                WholeSetBoundaryTest::shiftLoses);
        checks.sentence("Promise 6", "BAD_SET", WholeSetBoundaryTest::shiftOfNoSet);
        checks.sentence("Promise 6", "by not in -1023 to 1023: BAD_NUMBER",
                WholeSetBoundaryTest::shiftByTooMuch);
        checks.sentence("Promise 6", "Else answers how many numbers it has.",
                WholeSetBoundaryTest::shiftCounts);
    }

    private static void shiftByEveryAmount() {
        for (int by = -1023; by <= 1023; by++) {
            // 0 alone can be moved up by any amount, and 1023 alone down.
            int x = by < 0 ? 1023 : 0;
            Trial sets = fresh().with(1, x, x + 1);
            sets.shift(1, by);
            sets.holds(1, x + by, x + by + 1);
            sets.holds(0);
            sets.holds(2);
            Trial all = full(1);
            all.shift(1, by);
            all.holds(1, Math.max(0, by), Math.min(1024, 1024 + by));
        }
    }

    private static void shiftLoses() {
        for (int s = 0; s < 4; s++) {
            Trial up = fresh().with(s, 1022, 1024);
            up.shift(s, 1);
            up.holds(s, 1023, 1024);
            up.shift(s, 1);
            Trial down = fresh().with(s, 0, 2);
            down.shift(s, -1);
            down.holds(s, 0, 1);
            down.shift(s, -1);
            // Nothing has come in at the other end or in the set beside it.
            for (int other = 0; other < 4; other++) {
                up.holds(other);
                down.holds(other);
            }
            up.shift(s, -2);
            up.holds(s);
            down.shift(s, 2);
            down.holds(s);
        }
        Trial back = State.FULL.made(checks);
        back.shift(1, 1023);
        back.holds(1, 1023, 1024);
        back.shift(1, -1023);
        back.holds(1, 0, 1);
        back.holds(0, 0, 1024);
        back.holds(2, 0, 1024);
    }

    private static void shiftOfNoSet() {
        refused.with(Wrong.SETS, BAD_SET, (sets, s) -> sets.shift(s, -1023),
                (sets, s) -> sets.shift(s, 0), (sets, s) -> sets.shift(s, 1023));
    }

    private static void shiftByTooMuch() {
        refused.onEverySet(Wrong.SHIFTS, BAD_NUMBER, Trial::shift);
        full(2).shift(2, 1023).is(1);
        full(2).shift(2, -1023).is(1);
    }

    private static void shiftCounts() {
        fresh().shift(3, 1023).is(0);
        fresh().shift(3, -1023).is(0);
        Trial sets = full(3);
        sets.shift(3, 0).is(1024);
        sets.shift(3, 1).is(1023);
        sets.shift(3, -1).is(1023);
        sets.shift(3, -1).is(1022);
        sets.shift(3, 1).is(1022);
        sets.shift(3, 1023).is(0);
        sets.shift(3, 0).is(0);
    }

    private static void clear() {
        checks.sentence("Promise 7", "The set becomes empty.", WholeSetBoundaryTest::clearEmpties);
        checks.sentence("Promise 7", "BAD_SET", WholeSetBoundaryTest::clearOfNoSet);
        checks.sentence("Promise 7", "Else answers how many numbers it had.",
                WholeSetBoundaryTest::clearCounts);
    }

    private static void clearEmpties() {
        for (int[] shape : SHAPES) {
            for (int s = 0; s < 4; s++) {
                Trial sets = fresh().with(s, shape).with(3 - s, 0, 1024);
                sets.clear(3 - s);
                sets.holds(3 - s);
                sets.holds(s, shape);
                sets.clear(s);
                sets.holds(s);
                sets.clear(s);
                sets.holds(s);
            }
        }
    }

    private static void clearOfNoSet() {
        refused.with(Wrong.SETS, BAD_SET, Trial::clear);
    }

    private static void clearCounts() {
        for (int s = 0; s < 4; s++) {
            Trial sets = fresh();
            sets.clear(s).is(0);
            sets.add(s, 1023);
            sets.clear(s).is(1);
            sets.clear(s).is(0);
            sets.with(s, 0, 1024);
            sets.clear(3 - s).is(0);
            sets.clear(s).is(1024);
            sets.clear(s).is(0);
        }
    }

    private static void tidy() {
        checks.sentence("Promise 8", "Changes nothing that any other call answers.",
                WholeSetBoundaryTest::tidyChangesNoAnswer);
        checks.sentence("Promise 8", "BAD_SET", WholeSetBoundaryTest::tidyOfNoSet);
        checks.sentence("Promise 8", "Else answers 0.", WholeSetBoundaryTest::tidyAnswers0);
    }

    private static void tidyChangesNoAnswer() {
        for (int[] shape : SHAPES) {
            for (Trial.Call change : CHANGES) {
                Trial left = fresh().with(1, shape).with(3, 5, 9);
                Trial tidied = fresh().with(1, shape).with(3, 5, 9);
                for (int s = 0; s < 4; s++) {
                    tidied.tidy(s);
                }
                tidied.tidy(1);
                tidied.holds(1, shape);
                change.on(tidied).isAs(change.on(left));
                tidied.answersAs(left);
            }
        }
    }

    private static void tidyOfNoSet() {
        refused.with(Wrong.SETS, BAD_SET, Trial::tidy);
    }

    private static void tidyAnswers0() {
        for (State state : State.values()) {
            Trial sets = state.made(checks);
            for (int s = 0; s < 4; s++) {
                sets.tidy(s).is(0);
                sets.tidy(s).is(0);
                sets.clear(s);
                sets.tidy(s).is(0);
            }
        }
    }
}
