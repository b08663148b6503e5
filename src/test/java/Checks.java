import java.util.Arrays;

/** Counts and prints the answers that are not the ones due; shared by the tests. */
final class Checks {
    private final String test;
    private int made = 0;
    private int wrong = 0;

    Checks(String test) {
        this.test = test;
    }

    void due(String call, long got, long want) {
        made++;
        if (got != want) {
            wrong++;
            System.out.println(test + ": " + call + " answered " + got + ", due is " + want);
        }
    }

    void due(String call, boolean got, boolean want) {
        due(call, got ? 1 : 0, want ? 1 : 0);
    }

    /** Set s holds these numbers, given in rising order, and no others. */
    void holds(String when, ContainerSets sets, int s, int... want) {
        made++;
        int[] got = new int[Math.max(0, sets.size(s))];
        for (int k = 0; k < got.length; k++) {
            got[k] = sets.select(s, k);
        }
        if (!Arrays.equals(got, want)) {
            wrong++;
            System.out.println(test + ": " + when + ", set " + s + " holds "
                    + Arrays.toString(got) + ", due is " + Arrays.toString(want));
        }
    }

    int wrong() {
        return wrong;
    }

    void end() {
        System.out.println(test + ": " + made + " checks, " + wrong + " wrong");
        if (wrong != 0) {
            System.exit(1);
        }
    }
}
