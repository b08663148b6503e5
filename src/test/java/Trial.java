import java.util.Arrays;

/**
 * One object under test. Every answer knows the call that gave it, and no more calls are made
 * than the document speaks of.
 */
final class Trial {
    static final int MOST_CALLS = 512;

    private static final int[] PROBES = {-1, 0, 1, 5, 8, 63, 512, 1023, 1024};

    private final Checks checks;
    private final ContainerSets sets = new ContainerSets();
    private int calls = 0;

    Trial(Checks checks) {
        this.checks = checks;
    }

    /** A call to be made on some object. */
    interface Call {
        Answer on(Trial trial);
    }

    final class Answer {
        private final String call;
        private final int value;

        private Answer(String call, int value) {
            this.call = call;
            this.value = value;
        }

        void is(int want) {
            checks.due(call, value, want);
        }

        void is(boolean want) {
            is(want ? 1 : 0);
        }

        void isAs(Answer other) {
            is(other.value);
        }
    }

    Answer add(int s, int x) {
        return answer(sets.add(s, x), "add", s, x);
    }

    Answer remove(int s, int x) {
        return answer(sets.remove(s, x), "remove", s, x);
    }

    Answer range(int s, int ends, int how) {
        return answer(sets.range(s, ends, how), "range", s, ends, how);
    }

    Answer combine(int to, int s, int t, int how) {
        return answer(sets.combine(to, s, t, how), "combine", to, s, t, how);
    }

    Answer shift(int s, int by) {
        return answer(sets.shift(s, by), "shift", s, by);
    }

    Answer clear(int s) {
        return answer(sets.clear(s), "clear", s);
    }

    Answer tidy(int s) {
        return answer(sets.tidy(s), "tidy", s);
    }

    Answer has(int s, int x) {
        return answer(sets.has(s, x) ? 1 : 0, "has", s, x);
    }

    Answer size(int s) {
        return answer(sets.size(s), "size", s);
    }

    Answer rank(int s, int x) {
        return answer(sets.rank(s, x), "rank", s, x);
    }

    Answer select(int s, int k) {
        return answer(sets.select(s, k), "select", s, k);
    }

    Answer next(int s, int x) {
        return answer(sets.next(s, x), "next", s, x);
    }

    Answer ranges(int s) {
        return answer(sets.ranges(s), "ranges", s);
    }

    Answer common(int s, int t) {
        return answer(sets.common(s, t), "common", s, t);
    }

    Answer within(int s, int t) {
        return answer(sets.within(s, t) ? 1 : 0, "within", s, t);
    }

    Answer countIn(int s, int ends) {
        return answer(sets.countIn(s, ends), "countIn", s, ends);
    }

    private Answer answer(int value, String name, int... arguments) {
        calls++;
        if (calls > MOST_CALLS) {
            throw new IllegalStateException("the test makes call " + calls + " on one object");
        }
        String list = Arrays.toString(arguments);
        return new Answer("call " + calls + ", " + name + "("
                + list.substring(1, list.length() - 1) + "),", value);
    }

    int callsMade() {
        return calls;
    }

    /** Puts ranges in, given as pairs a, b. */
    Trial with(int s, int... pairs) {
        for (int i = 0; i < pairs.length; i += 2) {
            range(s, Checks.ends(pairs[i], pairs[i + 1]), 0);
        }
        return this;
    }

    /** The set is made up of just these ranges: pairs a, b in rising order that do not touch. */
    void holds(int s, int... pairs) {
        int numbers = 0;
        for (int i = 0; i < pairs.length; i += 2) {
            int a = pairs[i];
            int b = pairs[i + 1];
            numbers += b - a;
            countIn(s, Checks.ends(a, b)).is(b - a);
            has(s, a - 1).is(false);
            has(s, a).is(true);
            has(s, b - 1).is(true);
            has(s, b).is(false);
        }
        size(s).is(numbers);
        ranges(s).is(pairs.length / 2);
        next(s, 0).is(pairs.length == 0 ? ContainerSets.NONE : pairs[0]);
    }

    /** Both objects answer every asking call alike, for all sets and for numbers in and out of bounds. */
    void answersAs(Trial other) {
        for (int s = 0; s < 4; s++) {
            for (int x : PROBES) {
                has(s, x).isAs(other.has(s, x));
                rank(s, x).isAs(other.rank(s, x));
                select(s, x).isAs(other.select(s, x));
                next(s, x).isAs(other.next(s, x));
                countIn(s, Checks.ends(x, 1023)).isAs(other.countIn(s, Checks.ends(x, 1023)));
            }
            for (int t = 0; t < 4; t++) {
                common(s, t).isAs(other.common(s, t));
                within(s, t).isAs(other.within(s, t));
            }
            size(s).isAs(other.size(s));
            ranges(s).isAs(other.ranges(s));
        }
    }
}
