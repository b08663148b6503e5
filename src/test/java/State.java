/** States to start a test from, each told by the ranges that its four sets are made up of. */
enum State {
    EMPTY(new int[][] {{}, {}, {}, {}}),
    MIXED(new int[][] {{}, {0, 1, 5, 8, 640, 641, 1023, 1024}, {5, 6, 7, 8}, {0, 1024}}),
    FULL(new int[][] {{0, 1024}, {0, 1024}, {0, 1024}, {0, 1024}});

    private final int[][] sets;

    State(int[][] sets) {
        this.sets = sets;
    }

    Trial made(Checks checks) {
        Trial trial = new Trial(checks);
        for (int s = 0; s < sets.length; s++) {
            trial.with(s, sets[s]);
        }
        return trial;
    }

    /** The object is still in this state. */
    void holdsIn(Trial trial) {
        for (int s = 0; s < sets.length; s++) {
            trial.holds(s, sets[s]);
        }
    }
}
