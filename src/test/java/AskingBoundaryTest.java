/** The boundary cases of promises 9 to 17, a test of its own for each sentence. */
public final class AskingBoundaryTest {
    private static final int BAD_SET = ContainerSets.BAD_SET;
    private static final int BAD_NUMBER = ContainerSets.BAD_NUMBER;
    private static final int NONE = ContainerSets.NONE;
    private static final int ALL = Checks.ends(0, 1024);

    private static final Checks checks = new Checks("AskingBoundaryTest");
    private static final Refused refused = new Refused(checks);

    public static void main(String[] args) {
        has();
        size();
        rank();
        select();
        next();
        ranges();
        common();
        within();
        countIn();
        checks.end();
    }

    private static Trial fresh() {
        return new Trial(checks);
    }

    private static Trial full(int s) {
        return fresh().with(s, 0, 1024);
    }

    /** Set s holds 0 and 1023, and the sets beside it are full but for those two. */
    private static Trial onlyTheEnds(int s) {
        Trial sets = fresh();
        for (int other = 0; other < 4; other++) {
            if (other == s) {
                sets.with(s, 0, 1, 1023, 1024);
            } else {
                sets.with(other, 1, 1023);
            }
        }
        return sets;
    }

    /** Set 0 holds every even number, the most ranges that a set can have. */
    private static Trial allEven() {
        Trial sets = fresh();
        sets.add(0, 0);
        for (int width = 2; width < 1024; width *= 2) {
            sets.combine(1, 0, 0, 0);
            sets.shift(1, width);
            sets.combine(0, 0, 1, 0);
        }
        sets.clear(1);
        return sets;
    }

    private static void has() {
        checks.sentence("Promise 9", "Whether the number is in the set",
                AskingBoundaryTest::hasAtTheEdges);
        checks.sentence("Promise 9", "false if there is no such set",
                () -> refused.with(Wrong.SETS, 0, (sets, s) -> sets.has(s, 0),
                        (sets, s) -> sets.has(s, 5), (sets, s) -> sets.has(s, 1023),
                        (sets, s) -> sets.has(s, 1024)));
        checks.sentence("Promise 9", "false if there is no such set or number",
                () -> refused.onEverySet(Wrong.NUMBERS, 0, Trial::has));
    }

    private static void hasAtTheEdges() {
        for (int s = 0; s < 4; s++) {
            Trial sets = onlyTheEnds(s);
            for (int x : new int[] {0, 1, 511, 512, 1022, 1023}) {
                boolean end = x == 0 || x == 1023;
                sets.has(s, x).is(end);
                sets.has(3 - s, x).is(!end);
                fresh().has(s, x).is(false);
                full(s).has(s, x).is(true);
            }
        }
    }

    private static void size() {
        checks.sentence("Promise 10", "How many numbers the set has.",
                AskingBoundaryTest::sizeFromEmptyToFull);
        checks.sentence("Promise 10", "BAD_SET",
                () -> refused.with(Wrong.SETS, BAD_SET, Trial::size));
    }

    private static void sizeFromEmptyToFull() {
        for (int s = 0; s < 4; s++) {
            Trial sets = fresh();
            sets.size(s).is(0);
            sets.add(s, 1023);
            sets.size(s).is(1);
            sets.add(s, 1023);
            sets.size(s).is(1);
            sets.with(s, 0, 1023);
            sets.size(s).is(1024);
            sets.size(3 - s).is(0);
            sets.remove(s, 0);
            sets.size(s).is(1023);
            sets.shift(s, -1);
            sets.size(s).is(1023);
            sets.clear(s);
            sets.size(s).is(0);
            onlyTheEnds(s).size(s).is(2);
        }
        allEven().size(0).is(512);
    }

    private static void rank() {
        checks.sentence("Promise 11", "How many numbers of the set are below x.",
                AskingBoundaryTest::rankAtTheEdges);
        checks.sentence("Promise 11", "BAD_SET",
                () -> refused.with(Wrong.SETS, BAD_SET, (sets, s) -> sets.rank(s, 0),
                        (sets, s) -> sets.rank(s, 1024), (sets, s) -> sets.rank(s, 1025)));
        checks.sentence("Promise 11", "x not in 0 to 1024: BAD_NUMBER",
                AskingBoundaryTest::rankOfNoNumber);
    }

    private static void rankAtTheEdges() {
        for (int s = 0; s < 4; s++) {
            Trial sets = onlyTheEnds(s);
            sets.rank(s, 0).is(0);
            sets.rank(s, 1).is(1);
            sets.rank(s, 1023).is(1);
            sets.rank(s, 1024).is(2);
            fresh().rank(s, 0).is(0);
            fresh().rank(s, 1024).is(0);
        }
        for (int x = 0; x <= 1024; x++) {
            full(2).rank(2, x).is(x);
            fresh().with(2, x, 1024).rank(2, x).is(0);
        }
    }

    private static void rankOfNoNumber() {
        refused.onEverySet(Wrong.RANKS, BAD_NUMBER, Trial::rank);
        full(3).rank(3, 0).is(0);
        full(3).rank(3, 1024).is(1024);
    }

    private static void select() {
        checks.sentence("Promise 12", "The k-th smallest number of the set, from 0.",
                AskingBoundaryTest::selectAtTheEdges);
        checks.sentence("Promise 12", "BAD_SET",
                () -> refused.with(Wrong.SETS, BAD_SET, (sets, s) -> sets.select(s, 0),
                        (sets, s) -> sets.select(s, -1), (sets, s) -> sets.select(s, 1024)));
        checks.sentence("Promise 12", "there is none: NONE", AskingBoundaryTest::selectOfNone);
    }

    private static void selectAtTheEdges() {
        for (int s = 0; s < 4; s++) {
            Trial sets = onlyTheEnds(s);
            sets.select(s, 0).is(0);
            sets.select(s, 1).is(1023);
            sets.select(3 - s, 0).is(1);
            sets.select(3 - s, 1021).is(1022);
        }
        for (int k = 0; k < 1024; k++) {
            full(1).select(1, k).is(k);
        }
        Trial even = allEven();
        even.select(0, 0).is(0);
        even.select(0, 1).is(2);
        even.select(0, 511).is(1022);
    }

    private static void selectOfNone() {
        int[] never = {-1, -1024, 1024, 1025, 65536, -65536, Checks.LEAST, Checks.MOST};
        refused.onEverySet(never, NONE, Trial::select);
        for (int s = 0; s < 4; s++) {
            fresh().select(s, 0).is(NONE);
            fresh().select(s, 1023).is(NONE);
            onlyTheEnds(s).select(s, 2).is(NONE);
            onlyTheEnds(s).select(s, 1023).is(NONE);
            onlyTheEnds(3 - s).select(s, 1022).is(NONE);
            full(s).select(s, 1023).is(1023);
        }
        allEven().select(0, 512).is(NONE);
    }

    private static void next() {
        checks.sentence("Promise 13", "The smallest number of the set that is at least x.",
                AskingBoundaryTest::nextAtTheEdges);
        checks.sentence("Promise 13", "BAD_SET",
                () -> refused.with(Wrong.SETS, BAD_SET, (sets, s) -> sets.next(s, 0),
                        (sets, s) -> sets.next(s, 1023), (sets, s) -> sets.next(s, 1024)));
        checks.sentence("Promise 13", "x not in 0 to 1023: BAD_NUMBER",
                AskingBoundaryTest::nextOfNoNumber);
        checks.sentence("Promise 13", "there is none: NONE", AskingBoundaryTest::nextOfNone);
    }

    private static void nextAtTheEdges() {
        for (int s = 0; s < 4; s++) {
            Trial sets = onlyTheEnds(s);
            sets.next(s, 0).is(0);
            sets.next(s, 1).is(1023);
            sets.next(s, 1022).is(1023);
            sets.next(s, 1023).is(1023);
            sets.next(3 - s, 0).is(1);
            sets.next(3 - s, 1022).is(1022);
        }
        for (int x = 0; x < 1024; x++) {
            full(1).next(1, x).is(x);
        }
        allEven().next(0, 1021).is(1022);
    }

    private static void nextOfNoNumber() {
        refused.onEverySet(Wrong.NUMBERS, BAD_NUMBER, Trial::next);
        full(0).next(0, 0).is(0);
        full(0).next(0, 1023).is(1023);
    }

    private static void nextOfNone() {
        for (int s = 0; s < 4; s++) {
            fresh().next(s, 0).is(NONE);
            fresh().next(s, 1023).is(NONE);
            // The other sets are full, and 0 is in this one: neither is an answer.
            Trial sets = State.FULL.made(checks);
            sets.range(s, Checks.ends(1, 1024), 1);
            sets.next(s, 1).is(NONE);
            sets.next(s, 1023).is(NONE);
            sets.next(s, 0).is(0);
        }
        allEven().next(0, 1023).is(NONE);
    }

    private static void ranges() {
        checks.sentence("Promise 14", "How many ranges it takes, at least, to make up the set.",
                AskingBoundaryTest::rangesFromNoneToMost);
        checks.sentence("Promise 14", "BAD_SET",
                () -> refused.with(Wrong.SETS, BAD_SET, Trial::ranges));
    }

    private static void rangesFromNoneToMost() {
        for (int s = 0; s < 4; s++) {
            fresh().ranges(s).is(0);
            full(s).ranges(s).is(1);
            fresh().with(s, 0, 1).ranges(s).is(1);
            fresh().with(s, 1023, 1024).ranges(s).is(1);
            // 1023 and 0 do not meet round the end, nor do those of two sets.
            onlyTheEnds(s).ranges(s).is(2);
            onlyTheEnds(s).ranges(3 - s).is(1);
            State.FULL.made(checks).ranges(s).is(1);
        }
        Trial meeting = fresh().with(1, 0, 5, 6, 9);
        meeting.ranges(1).is(2);
        meeting.with(1, 5, 6);
        meeting.ranges(1).is(1);
        meeting.with(1, 9, 12);
        meeting.ranges(1).is(1);
        Trial even = allEven();
        even.ranges(0).is(512);
        even.shift(0, 1).is(512);
        even.ranges(0).is(512);
        even.range(0, ALL, 2).is(512);
        even.ranges(0).is(512);
    }

    private static void common() {
        checks.sentence("Promise 15", "How many numbers are in both sets.",
                AskingBoundaryTest::commonFromNoneToAll);
        checks.sentence("Promise 15", "BAD_SET",
                () -> refused.with(Wrong.SETS, BAD_SET, (sets, no) -> sets.common(no, 0),
                        (sets, no) -> sets.common(3, no), (sets, no) -> sets.common(no, no)));
    }

    private static void commonFromNoneToAll() {
        for (int s = 0; s < 4; s++) {
            for (int t = 0; t < 4; t++) {
                fresh().common(s, t).is(0);
                State.FULL.made(checks).common(s, t).is(1024);
                full(s).common(s, t).is(s == t ? 1024 : 0);
                Trial sets = onlyTheEnds(s);
                sets.common(s, t).is(s == t ? 2 : 0);
                sets.with(t, 1023, 1024);
                sets.common(s, t).is(s == t ? 2 : 1);
                sets.with(t, 0, 1);
                sets.common(t, s).is(2);
            }
        }
    }

    private static void within() {
        checks.sentence("Promise 16", "Whether every number of s is in t",
                AskingBoundaryTest::withinAtTheEdges);
        checks.sentence("Promise 16", "false if one is no set",
                () -> refused.with(Wrong.SETS, 0, (sets, no) -> sets.within(no, 3),
                        (sets, no) -> sets.within(0, no), (sets, no) -> sets.within(no, no)));
    }

    private static void withinAtTheEdges() {
        for (int s = 0; s < 4; s++) {
            for (int t = 0; t < 4; t++) {
                fresh().within(s, t).is(true);
                full(t).within(s, t).is(true);
                full(s).within(s, t).is(s == t);
                State.FULL.made(checks).within(s, t).is(true);
                if (s != t) {
                    lacksOne(s, t, 0);
                    lacksOne(s, t, 512);
                    lacksOne(s, t, 1023);
                }
            }
        }
    }

    /** Both sets are full, but for one number that t lacks. */
    private static void lacksOne(int s, int t, int x) {
        Trial sets = State.FULL.made(checks);
        sets.remove(t, x);
        sets.within(s, t).is(false);
        sets.within(t, s).is(true);
        sets.remove(s, x);
        sets.within(s, t).is(true);
        sets.range(s, ALL, 1);
        sets.add(s, x);
        sets.within(s, t).is(false);
    }

    private static void countIn() {
        checks.sentence("Promise 17", "How many numbers of the set lie in the range",
                AskingBoundaryTest::countInAtTheEdges);
        checks.sentence("Promise 17", "ends as in range", AskingBoundaryTest::bitsOfEnds);
        checks.sentence("Promise 17", "BAD_SET",
                () -> refused.with(Wrong.SETS, BAD_SET, (sets, s) -> sets.countIn(s, ALL),
                        (sets, s) -> sets.countIn(s, Checks.ends(9, 3)),
                        (sets, s) -> sets.countIn(s, Checks.ends(0, 1025))));
        checks.sentence("Promise 17", "a or b not in 0 to 1024: BAD_NUMBER",
                AskingBoundaryTest::countInNoEnds);
    }

    private static void countInAtTheEdges() {
        for (int s = 0; s < 4; s++) {
            Trial sets = onlyTheEnds(s);
            sets.countIn(s, ALL).is(2);
            sets.countIn(s, Checks.ends(0, 1)).is(1);
            sets.countIn(s, Checks.ends(0, 1023)).is(1);
            sets.countIn(s, Checks.ends(1, 1023)).is(0);
            sets.countIn(s, Checks.ends(1, 1024)).is(1);
            sets.countIn(s, Checks.ends(1023, 1024)).is(1);
            sets.countIn(s, Checks.ends(0, 0)).is(0);
            sets.countIn(s, Checks.ends(1, 0)).is(0);
            sets.countIn(s, Checks.ends(1024, 0)).is(0);
            sets.countIn(s, Checks.ends(1024, 1024)).is(0);
            fresh().countIn(s, ALL).is(0);
            full(s).countIn(s, ALL).is(1024);
        }
        for (int end = 0; end <= 1024; end++) {
            full(2).countIn(2, Checks.ends(0, end)).is(end);
            full(2).countIn(2, Checks.ends(end, 1024)).is(1024 - end);
            full(2).countIn(2, Checks.ends(end, end)).is(0);
        }
        allEven().countIn(0, Checks.ends(1, 1023)).is(511);
    }

    private static void bitsOfEnds() {
        for (int bit = 0; bit <= 10; bit++) {
            full(1).countIn(1, (1 << bit) + ALL).is(1024 - (1 << bit));
            full(1).countIn(1, 1 << (bit + 11)).is(1 << bit);
        }
        int high = 0;
        for (int bit = 22; bit <= 31; bit++) {
            high |= 1 << bit;
            for (int other : new int[] {1 << bit, high}) {
                Trial sets = full(1);
                sets.countIn(1, Checks.ends(5, 9) | other).is(4);
                sets.countIn(1, ALL | other).is(1024);
                sets.countIn(1, Checks.ends(9, 5) | other).is(0);
                sets.countIn(1, Checks.ends(1025, 9) | other).is(BAD_NUMBER);
                sets.countIn(1, Checks.ends(0, 1025) | other).is(BAD_NUMBER);
            }
        }
    }

    private static void countInNoEnds() {
        refused.onEverySet(Wrong.ENDS, BAD_NUMBER, Trial::countIn);
        for (int bad = 1025; bad <= 2047; bad++) {
            full(1).countIn(1, Checks.ends(bad, 1024)).is(BAD_NUMBER);
            full(1).countIn(1, Checks.ends(0, bad)).is(BAD_NUMBER);
        }
        full(1).countIn(1, Checks.ends(1024, 1024)).is(0);
        full(1).countIn(1, Checks.ends(0, 1024)).is(1024);
    }
}
