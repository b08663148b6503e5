/** The boundary cases of promises 1 to 3, a test of its own for each sentence. */
public final class AddRemoveBoundaryTest {
    private static final int BAD_SET = ContainerSets.BAD_SET;
    private static final int BAD_NUMBER = ContainerSets.BAD_NUMBER;
    private static final int NONE = ContainerSets.NONE;
    private static final int ALL = Checks.ends(0, 1024);

    private static final Checks checks = new Checks("AddRemoveBoundaryTest");
    private static final Refused refused = new Refused(checks);

    public static void main(String[] args) {
        checks.sentence("Promise 1", "All sets are empty.", AddRemoveBoundaryTest::newObject);
        add();
        remove();
        checks.end();
    }

    private static Trial fresh() {
        return new Trial(checks);
    }

    private static Trial full(int s) {
        return fresh().with(s, 0, 1024);
    }

    private static void newObject() {
        for (int s = 0; s < 4; s++) {
            fresh().size(s).is(0);
            fresh().ranges(s).is(0);
            fresh().next(s, 0).is(NONE);
            fresh().select(s, 0).is(NONE);
            fresh().rank(s, 1024).is(0);
            fresh().countIn(s, ALL).is(0);
            fresh().has(s, 0).is(false);
            fresh().has(s, 1023).is(false);
            fresh().common(s, s).is(0);
            fresh().within(s, 3 - s).is(true);
            fresh().remove(s, 0).is(0);
            fresh().clear(s).is(0);
            fresh().shift(s, 1).is(0);
            fresh().range(s, ALL, 2).is(1024);
            fresh().combine(s, 0, 3, 0).is(0);
        }
    }

    private static void add() {
        checks.sentence("Promise 2", "Puts a number in.", AddRemoveBoundaryTest::addAtTheEdges);
        checks.sentence("Promise 2", "BAD_SET", AddRemoveBoundaryTest::addToNoSet);
        checks.sentence("Promise 2", "x not in 0 to 1023: BAD_NUMBER",
                AddRemoveBoundaryTest::addOfNoNumber);
        checks.sentence("Promise 2", "Else answers 1 if it was not in before, 0 if it was.",
                AddRemoveBoundaryTest::addTwice);
    }

    private static void addAtTheEdges() {
        for (int s = 0; s < 4; s++) {
            Trial sets = fresh();
            sets.add(s, 0);
            sets.holds(s, 0, 1);
            sets.add(s, 1023);
            sets.holds(s, 0, 1, 1023, 1024);
            for (int other = 0; other < 4; other++) {
                if (other != s) {
                    sets.holds(other);
                }
            }
        }
        Trial all = fresh().with(1, 0, 512, 513, 1024);
        all.add(1, 512);
        all.holds(1, 0, 1024);
        all.add(1, 512);
        all.holds(1, 0, 1024);
    }

    private static void addToNoSet() {
        refused.with(Wrong.SETS, BAD_SET, (sets, s) -> sets.add(s, 0), (sets, s) -> sets.add(s, 1023));
    }

    private static void addOfNoNumber() {
        refused.onEverySet(Wrong.NUMBERS, BAD_NUMBER, Trial::add);
        fresh().add(0, 0).is(1);
        fresh().add(0, 1023).is(1);
    }

    private static void addTwice() {
        for (int s = 0; s < 4; s++) {
            for (int x : new int[] {0, 1, 511, 512, 1022, 1023}) {
                Trial sets = fresh();
                sets.add(s, x).is(1);
                sets.add(s, x).is(0);
                sets.add(3 - s, x).is(1);
                sets.remove(s, x);
                sets.add(s, x).is(1);
                full(s).add(s, x).is(0);
            }
        }
    }

    private static void remove() {
        checks.sentence("Promise 3", "Takes a number out.", AddRemoveBoundaryTest::removeAtTheEdges);
        checks.sentence("Promise 3", "BAD_SET", AddRemoveBoundaryTest::removeFromNoSet);
        checks.sentence("Promise 3", "x not in 0 to 1023: BAD_NUMBER",
                AddRemoveBoundaryTest::removeOfNoNumber);
        checks.sentence("Promise 3", "Else answers 1 if it was in before, 0 if not.",
                AddRemoveBoundaryTest::removeTwice);
    }

    private static void removeAtTheEdges() {
        for (int s = 0; s < 4; s++) {
            Trial sets = State.FULL.made(checks);
            sets.remove(s, 0);
            sets.holds(s, 1, 1024);
            sets.remove(s, 1023);
            sets.holds(s, 1, 1023);
            sets.remove(s, 512);
            sets.holds(s, 1, 512, 513, 1023);
            for (int other = 0; other < 4; other++) {
                if (other != s) {
                    sets.holds(other, 0, 1024);
                }
            }
        }
        Trial last = fresh().with(2, 1023, 1024);
        last.remove(2, 1023);
        last.holds(2);
        last.remove(2, 1023);
        last.holds(2);
    }

    private static void removeFromNoSet() {
        refused.with(Wrong.SETS, BAD_SET,
                (sets, s) -> sets.remove(s, 0), (sets, s) -> sets.remove(s, 1023));
    }

    private static void removeOfNoNumber() {
        refused.onEverySet(Wrong.NUMBERS, BAD_NUMBER, Trial::remove);
        full(0).remove(0, 0).is(1);
        full(0).remove(0, 1023).is(1);
    }

    private static void removeTwice() {
        for (int s = 0; s < 4; s++) {
            for (int x : new int[] {0, 1, 511, 512, 1022, 1023}) {
                fresh().remove(s, x).is(0);
                Trial sets = State.FULL.made(checks);
                sets.remove(s, x).is(1);
                sets.remove(s, x).is(0);
                sets.remove(3 - s, x).is(1);
                sets.add(s, x);
                sets.remove(s, x).is(1);
            }
        }
    }
}
