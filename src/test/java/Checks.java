import java.util.Arrays;

/** Counts and prints the answers that are not the ones due, for every test of the project. */
final class Checks {
    static final int LEAST = Integer.MIN_VALUE;
    static final int MOST = Integer.MAX_VALUE;
    static final int[] NO_SETS = {-1, 4, LEAST, MOST};
    static final int[] NO_NUMBERS = {-1, 1024, LEAST, MOST};

    private static final int MOST_TOLD = 20;

    private final String test;
    private String about = "";
    private int made = 0;
    private int wrong = 0;
    private int told = 0;

    Checks(String test) {
        this.test = test;
    }

    static int ends(int a, int b) {
        return a + 2048 * b;
    }

    /** Runs the test of one sentence; its faults are told with the sentence's words. */
    void sentence(String where, String words, Runnable itsTest) {
        about = where + " \"" + words + "\": ";
        told = 0;
        int before = made;
        try {
            itsTest.run();
        } catch (RuntimeException thrown) {
            tell("threw " + thrown);
        }
        if (made == before) {
            tell("its test checks nothing");
        }
        about = "";
    }

    void due(String call, long got, long want) {
        made++;
        if (got != want) {
            tell(call + " answered " + got + ", due is " + want);
        }
    }

    void due(String call, boolean got, boolean want) {
        due(call, got ? 1 : 0, want ? 1 : 0);
    }

    void kept(String rule, boolean kept) {
        made++;
        if (!kept) {
            tell("not kept: " + rule);
        }
    }

    /** Set s holds these numbers, given in rising order, and no others. */
    void holds(String when, ContainerSets sets, int s, int... want) {
        made++;
        int[] got = new int[Math.max(0, sets.size(s))];
        for (int k = 0; k < got.length; k++) {
            got[k] = sets.select(s, k);
        }
        if (!Arrays.equals(got, want)) {
            tell(when + ", set " + s + " holds " + Arrays.toString(got)
                    + ", due is " + Arrays.toString(want));
        }
    }

    // One early fault can spoil thousands of later answers, which would hide it.
    private void tell(String fault) {
        wrong++;
        told++;
        if (told <= MOST_TOLD) {
            System.out.println(test + ": " + about + fault);
        }
    }

    void end() {
        System.out.println(test + ": " + made + " checks, " + wrong + " wrong");
        if (wrong != 0) {
            System.exit(1);
        }
    }
}
