import java.util.ArrayList;
import java.util.List;

/** The boundary cases under "What it is" and "Terms", a test of its own for each sentence. */
public final class TermsBoundaryTest {
    private static final int BAD_SET = ContainerSets.BAD_SET;
    private static final int BAD_NUMBER = ContainerSets.BAD_NUMBER;
    private static final int NONE = ContainerSets.NONE;
    private static final int ALL = Checks.ends(0, 1024);

    private static final Checks checks = new Checks("TermsBoundaryTest");
    private static final Refused refused = new Refused(checks);

    public static void main(String[] args) {
        checks.sentence("What it is", "Sets of numbers from 0 to 1023.",
                TermsBoundaryTest::everyNumberOfEverySet);
        checks.sentence("What it is", "An object is used for at most 512 calls after it has been made",
                TermsBoundaryTest::everyCallAsTheLastOne);
        checks.sentence("Terms", "There are four SETS (0 to 3), all empty at the start.",
                TermsBoundaryTest::fourSets);
        checks.sentence("Terms", "A RANGE from a to b is all numbers from a to b - 1",
                TermsBoundaryTest::lastNumberOfARange);
        checks.sentence("Terms", "it is given by two numbers a and b, 0 to 1024",
                TermsBoundaryTest::everyEnd);
        checks.sentence("Terms", "is empty if a is not below b",
                TermsBoundaryTest::emptyRanges);
        checks.sentence("Terms", "How sets are kept CAN'T BE SEEN.",
                TermsBoundaryTest::oneSetMadeInManyWays);
        checks.sentence("Terms", "Tests are made in the order in which they are named",
                TermsBoundaryTest::orderOfTests);
        checks.sentence("Terms", "a refused call changes nothing",
                TermsBoundaryTest::refusedCalls);
        checks.sentence("Terms", "s, t and to are sets: one not in 0 to 3 is BAD_SET.",
                TermsBoundaryTest::noSets);
        checks.sentence("Terms", "The calls below change nothing.",
                TermsBoundaryTest::askingCalls);
        checks.end();
    }

    private static Trial fresh() {
        return new Trial(checks);
    }

    private static void everyNumberOfEverySet() {
        for (int s = 0; s < 4; s++) {
            for (int x = 0; x < 1024; x++) {
                Trial sets = fresh();
                sets.add(s, x).is(1);
                sets.holds(s, x, x + 1);
                sets.select(s, 0).is(x);
            }
        }
    }

    /** 511 calls, each with a number of its own: set 0 has 0, 2, 4 and so on to 1020. */
    private static Trial beforeTheLastCall() {
        Trial sets = fresh();
        while (sets.callsMade() < Trial.MOST_CALLS - 1) {
            sets.add(0, 2 * sets.callsMade()).is(1);
        }
        return sets;
    }

    private static void everyCallAsTheLastOne() {
        beforeTheLastCall().add(0, 1022).is(1);
        beforeTheLastCall().add(0, 1020).is(0);
        beforeTheLastCall().remove(0, 1020).is(1);
        beforeTheLastCall().range(0, ALL, 2).is(513);
        beforeTheLastCall().range(0, ALL, 0).is(1024);
        beforeTheLastCall().combine(1, 0, 0, 0).is(511);
        beforeTheLastCall().shift(0, 3).is(511);
        beforeTheLastCall().shift(0, 4).is(510);
        beforeTheLastCall().clear(0).is(511);
        beforeTheLastCall().tidy(0).is(0);
        beforeTheLastCall().has(0, 1020).is(true);
        beforeTheLastCall().size(0).is(511);
        beforeTheLastCall().rank(0, 1024).is(511);
        beforeTheLastCall().select(0, 510).is(1020);
        beforeTheLastCall().select(0, 511).is(NONE);
        beforeTheLastCall().next(0, 1019).is(1020);
        beforeTheLastCall().ranges(0).is(511);
        beforeTheLastCall().common(0, 0).is(511);
        beforeTheLastCall().within(0, 1).is(false);
        beforeTheLastCall().countIn(0, ALL).is(511);
        beforeTheLastCall().add(4, 0).is(BAD_SET);
        beforeTheLastCall().add(0, 1024).is(BAD_NUMBER);
    }

    private static void fourSets() {
        for (int s = 0; s < 4; s++) {
            Trial sets = fresh();
            sets.size(s).is(0);
            sets.range(s, ALL, 0).is(1024);
            for (int t = 0; t < 4; t++) {
                sets.size(t).is(t == s ? 1024 : 0);
            }
        }
        fresh().size(4).is(BAD_SET);
        fresh().size(-1).is(BAD_SET);
    }

    private static void lastNumberOfARange() {
        for (int[] range : new int[][] {{0, 1}, {0, 2}, {5, 9}, {63, 65}, {1022, 1023}, {0, 1023}}) {
            int a = range[0];
            int b = range[1];
            Trial put = fresh().with(2, a, b);
            put.holds(2, a, b);
            Trial counted = fresh().with(2, 0, 1024);
            counted.countIn(2, Checks.ends(a, b)).is(b - a);
            Trial taken = fresh().with(2, a, b + 1);
            taken.range(2, Checks.ends(a, b), 1).is(1);
            taken.holds(2, b, b + 1);
            Trial turned = fresh().with(2, a, b + 1);
            turned.range(2, Checks.ends(a, b), 2).is(1);
            turned.holds(2, b, b + 1);
        }
    }

    private static void everyEnd() {
        for (int end = 0; end <= 1024; end++) {
            Trial sets = fresh();
            sets.range(1, Checks.ends(end, 1024), 0).is(1024 - end);
            sets.range(2, Checks.ends(0, end), 0).is(end);
            sets.countIn(1, Checks.ends(end, 1024)).is(1024 - end);
            sets.countIn(2, Checks.ends(0, end)).is(end);
            sets.range(3, Checks.ends(end, end), 0).is(0);
        }
        fresh().range(1, Checks.ends(1025, 1024), 0).is(BAD_NUMBER);
        fresh().range(1, Checks.ends(0, 1025), 0).is(BAD_NUMBER);
    }

    private static void emptyRanges() {
        int[][] empty = {{0, 0}, {1, 0}, {7, 7}, {7, 6}, {640, 5}, {1023, 1023}, {1023, 0},
            {1024, 1024}, {1024, 1023}, {1024, 0}};
        for (State state : State.values()) {
            for (int[] range : empty) {
                for (int how = 0; how < 3; how++) {
                    emptyRange(state, Checks.ends(range[0], range[1]), how);
                }
            }
        }
    }

    private static void emptyRange(State state, int ends, int how) {
        Trial sets = state.made(checks);
        for (int s = 0; s < 4; s++) {
            Trial.Answer before = sets.size(s);
            sets.range(s, ends, how).isAs(before);
            sets.countIn(s, ends).is(0);
        }
        state.holdsIn(sets);
    }

    /** Ways to make set 0 of the numbers 0 to 8 and 63, with the other sets left empty. */
    private static List<Trial> made0To8And63() {
        List<Trial> made = new ArrayList<>();
        Trial byRanges = fresh().with(0, 0, 9, 63, 64);
        made.add(byRanges);
        Trial byNumbers = fresh();
        byNumbers.add(0, 63);
        for (int x = 8; x >= 0; x--) {
            byNumbers.add(0, x);
        }
        made.add(byNumbers);
        Trial byTakingOut = fresh().with(0, 0, 1024);
        byTakingOut.range(0, Checks.ends(9, 63), 1);
        byTakingOut.range(0, Checks.ends(64, 1024), 1);
        made.add(byTakingOut);
        Trial byTurning = fresh();
        byTurning.range(0, Checks.ends(0, 64), 2);
        byTurning.range(0, Checks.ends(9, 63), 2);
        made.add(byTurning);
        Trial byShifts = fresh().with(0, 955, 969, 1018, 1024);
        byShifts.shift(0, 5);
        byShifts.shift(0, -960);
        byShifts.range(0, Checks.ends(9, 63), 1);
        made.add(byShifts);
        Trial byCombine = fresh().with(1, 0, 64).with(0, 9, 63);
        byCombine.combine(0, 1, 0, 3);
        byCombine.clear(1);
        made.add(byCombine);
        return made;
    }

    private static void oneSetMadeInManyWays() {
        int ways = made0To8And63().size();
        for (int way = 0; way < ways; way++) {
            Trial first = made0To8And63().get(0);
            Trial other = made0To8And63().get(way);
            other.holds(0, 0, 9, 63, 64);
            other.answersAs(first);
            Trial tidied = made0To8And63().get(way);
            tidied.tidy(0);
            tidied.answersAs(made0To8And63().get(0));
            tidied.shift(0, 1).is(10);
            tidied.add(0, 0).is(1);
            tidied.holds(0, 0, 10, 64, 65);
        }
    }

    private static void orderOfTests() {
        refused.with(Wrong.SETS, BAD_SET, (sets, s) -> sets.add(s, 1024),
                (sets, s) -> sets.remove(s, -1), (sets, s) -> sets.range(s, Checks.ends(1025, 9), 0),
                (sets, s) -> sets.range(s, Checks.ends(0, 1025), 0),
                (sets, s) -> sets.range(s, ALL, 3), (sets, s) -> sets.combine(s, 1, 2, 4),
                (sets, s) -> sets.combine(1, s, 2, -1), (sets, s) -> sets.combine(1, 2, s, 4),
                (sets, s) -> sets.shift(s, 1024));
    }

    private static void refusedCalls() {
        for (int how = 0; how < 4; how++) {
            int way = how;
            refused.with(Wrong.SETS, BAD_SET, (sets, s) -> sets.range(s, ALL, way),
                    (sets, s) -> sets.combine(s, 1, 2, way), (sets, s) -> sets.combine(1, s, 2, way),
                    (sets, s) -> sets.combine(1, 2, s, way));
        }
        refused.with(Wrong.SETS, BAD_SET, (sets, s) -> sets.add(s, 9),
                (sets, s) -> sets.remove(s, 5), (sets, s) -> sets.shift(s, 1), Trial::clear,
                Trial::tidy);
        refused.onEverySet(Wrong.NUMBERS, BAD_NUMBER, Trial::add, Trial::remove);
        refused.onEverySet(Wrong.ENDS, BAD_NUMBER, (sets, s, ends) -> sets.range(s, ends, 0),
                (sets, s, ends) -> sets.range(s, ends, 1), (sets, s, ends) -> sets.range(s, ends, 2));
        refused.onEverySet(Wrong.RANGE_HOWS, BAD_NUMBER, (sets, s, how) -> sets.range(s, ALL, how));
        refused.onEverySet(Wrong.COMBINE_HOWS, BAD_NUMBER,
                (sets, to, how) -> sets.combine(to, 1, 3, how));
        refused.onEverySet(Wrong.SHIFTS, BAD_NUMBER, Trial::shift);
    }

    private static void noSets() {
        refused.with(Wrong.SETS, BAD_SET, (sets, no) -> sets.add(no, 5),
                (sets, no) -> sets.remove(no, 5), (sets, no) -> sets.range(no, ALL, 0),
                (sets, no) -> sets.combine(no, 1, 2, 0), (sets, no) -> sets.combine(1, no, 2, 0),
                (sets, no) -> sets.combine(1, 2, no, 0), (sets, no) -> sets.shift(no, 0),
                Trial::clear, Trial::tidy);
        for (int s = 0; s < 4; s++) {
            Trial sets = State.FULL.made(checks);
            sets.combine(s, 3 - s, s, 1).is(1024);
            sets.tidy(s).is(0);
            sets.clear(s).is(1024);
        }
    }

    private static void askingCalls() {
        for (State state : State.values()) {
            for (int s : new int[] {-1, 0, 1, 2, 3, 4}) {
                Trial sets = state.made(checks);
                for (int x : new int[] {-1, 0, 5, 6, 1023, 1024, 1025}) {
                    sets.has(s, x);
                    sets.rank(s, x);
                    sets.select(s, x);
                    sets.next(s, x);
                    sets.countIn(s, Checks.ends(0, x));
                    sets.countIn(s, Checks.ends(x, 1024));
                }
                for (int t = -1; t <= 4; t++) {
                    sets.common(s, t);
                    sets.within(s, t);
                }
                sets.size(s);
                sets.ranges(s);
                state.holdsIn(sets);
            }
        }
    }
}
