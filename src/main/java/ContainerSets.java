/** Sets of numbers from 0 to 1023. The document's promises are in ../shared/DOC.md. */
public final class ContainerSets {
    public static final int BAD_SET = -1;
    public static final int BAD_NUMBER = -2;
    public static final int NONE = -3;

    private static final int SETS = 4;
    private static final int NUMBERS = 1024;
    private static final int CELLS = SETS * NUMBERS;

    private static final int END_BITS = 11;
    private static final int END_MASK = 2047;

    private static final int PUT_IN = 0;
    private static final int TURN_ROUND = 2;

    private static final int EITHER = 0;
    private static final int BOTH = 1;
    private static final int FIRST_ONLY = 2;
    private static final int JUST_ONE = 3;

    // One cell a number, set after set: with no second form of a set and no kept count,
    // there is nothing that could fall out of step.
    private final boolean[] cells = new boolean[CELLS];

    public ContainerSets() {
        // New cells are false, so all sets are empty already.
    }

    public int add(int s, int x) {
        if (!isSet(s)) {
            return BAD_SET;
        }
        if (!isNumber(x)) {
            return BAD_NUMBER;
        }
        int cell = cellOf(s, x);
        int answer = cells[cell] ? 0 : 1;
        cells[cell] = true;
        return answer;
    }

    public int remove(int s, int x) {
        if (!isSet(s)) {
            return BAD_SET;
        }
        if (!isNumber(x)) {
            return BAD_NUMBER;
        }
        int cell = cellOf(s, x);
        int answer = cells[cell] ? 1 : 0;
        cells[cell] = false;
        return answer;
    }

    public int range(int s, int ends, int how) {
        if (!isSet(s)) {
            return BAD_SET;
        }
        if (!areEnds(ends) || how < PUT_IN || how > TURN_ROUND) {
            return BAD_NUMBER;
        }
        int b = upperEnd(ends);
        for (int x = lowerEnd(ends); x < b; x++) {
            int cell = cellOf(s, x);
            cells[cell] = how == PUT_IN || (how == TURN_ROUND && !cells[cell]);
        }
        return countAll(s);
    }

    public int combine(int to, int s, int t, int how) {
        if (!isSet(to) || !isSet(s) || !isSet(t)) {
            return BAD_SET;
        }
        if (how < EITHER || how > JUST_ONE) {
            return BAD_NUMBER;
        }
        // Each number's cells are read before its cell in 'to' is written, so 'to' may be s or t.
        for (int x = 0; x < NUMBERS; x++) {
            boolean inS = cells[cellOf(s, x)];
            boolean inT = cells[cellOf(t, x)];
            cells[cellOf(to, x)] = joined(inS, inT, how);
        }
        return countAll(to);
    }

    public int shift(int s, int by) {
        if (!isSet(s)) {
            return BAD_SET;
        }
        if (by <= -NUMBERS || by >= NUMBERS) {
            return BAD_NUMBER;
        }
        if (by > 0) {
            shiftUp(s, by);
        } else {
            shiftDown(s, -by);
        }
        return countAll(s);
    }

    public int clear(int s) {
        if (!isSet(s)) {
            return BAD_SET;
        }
        int answer = countAll(s);
        for (int x = 0; x < NUMBERS; x++) {
            cells[cellOf(s, x)] = false;
        }
        return answer;
    }

    public int tidy(int s) {
        // A set is kept in one way only, so there is nothing to do.
        return isSet(s) ? 0 : BAD_SET;
    }

    public boolean has(int s, int x) {
        return isSet(s) && isNumber(x) && cells[cellOf(s, x)];
    }

    public int size(int s) {
        return isSet(s) ? countAll(s) : BAD_SET;
    }

    public int rank(int s, int x) {
        if (!isSet(s)) {
            return BAD_SET;
        }
        return isEnd(x) ? countBetween(s, 0, x) : BAD_NUMBER;
    }

    public int select(int s, int k) {
        if (!isSet(s)) {
            return BAD_SET;
        }
        int below = 0;
        for (int x = 0; x < NUMBERS; x++) {
            if (cells[cellOf(s, x)]) {
                if (below == k) {
                    return x;
                }
                below++;
            }
        }
        return NONE;
    }

    public int next(int s, int x) {
        if (!isSet(s)) {
            return BAD_SET;
        }
        if (!isNumber(x)) {
            return BAD_NUMBER;
        }
        for (int y = x; y < NUMBERS; y++) {
            if (cells[cellOf(s, y)]) {
                return y;
            }
        }
        return NONE;
    }

    public int ranges(int s) {
        if (!isSet(s)) {
            return BAD_SET;
        }
        int starts = 0;
        boolean before = false;
        for (int x = 0; x < NUMBERS; x++) {
            boolean now = cells[cellOf(s, x)];
            if (now && !before) {
                starts++;
            }
            before = now;
        }
        return starts;
    }

    public int common(int s, int t) {
        if (!isSet(s) || !isSet(t)) {
            return BAD_SET;
        }
        return countCommon(s, t);
    }

    public boolean within(int s, int t) {
        return isSet(s) && isSet(t) && countCommon(s, t) == countAll(s);
    }

    public int countIn(int s, int ends) {
        if (!isSet(s)) {
            return BAD_SET;
        }
        if (!areEnds(ends)) {
            return BAD_NUMBER;
        }
        int a = lowerEnd(ends);
        int b = upperEnd(ends);
        return countBetween(s, a, b);
    }

    private static boolean isSet(int s) {
        return s >= 0 && s < SETS;
    }

    private static boolean isNumber(int x) {
        return x >= 0 && x < NUMBERS;
    }

    private static boolean isEnd(int x) {
        return x >= 0 && x <= NUMBERS;
    }

    private static boolean areEnds(int ends) {
        int a = lowerEnd(ends);
        int b = upperEnd(ends);
        return isEnd(a) && isEnd(b);
    }

    private static int lowerEnd(int ends) {
        return ends & END_MASK;
    }

    private static int upperEnd(int ends) {
        return (ends >>> END_BITS) & END_MASK;
    }

    private static int cellOf(int s, int x) {
        return s * NUMBERS + x;
    }

    private static boolean joined(boolean inS, boolean inT, int how) {
        switch (how) {
            case EITHER:
                return inS || inT;
            case BOTH:
                return inS && inT;
            case FIRST_ONLY:
                return inS && !inT;
            default:
                return inS != inT;
        }
    }

    // From the top down, so that no cell is written before it has been read.
    private void shiftUp(int s, int by) {
        for (int x = NUMBERS - 1; x >= 0; x--) {
            cells[cellOf(s, x)] = x >= by && cells[cellOf(s, x - by)];
        }
    }

    // From the bottom up, for the same reason.
    private void shiftDown(int s, int by) {
        for (int x = 0; x < NUMBERS; x++) {
            cells[cellOf(s, x)] = x < NUMBERS - by && cells[cellOf(s, x + by)];
        }
    }

    private int countAll(int s) {
        return countBetween(s, 0, NUMBERS);
    }

    private int countBetween(int s, int a, int b) {
        int count = 0;
        for (int x = a; x < b; x++) {
            if (cells[cellOf(s, x)]) {
                count++;
            }
        }
        return count;
    }

    private int countCommon(int s, int t) {
        int count = 0;
        for (int x = 0; x < NUMBERS; x++) {
            if (cells[cellOf(s, x)] && cells[cellOf(t, x)]) {
                count++;
            }
        }
        return count;
    }
}
