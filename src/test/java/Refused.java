/** Makes calls with wrong arguments in every state: each has the answer due, and the state stays. */
final class Refused {
    private final Checks checks;

    Refused(Checks checks) {
        this.checks = checks;
    }

    interface CallWith {
        Trial.Answer on(Trial sets, int wrong);
    }

    interface CallOnSetWith {
        Trial.Answer on(Trial sets, int s, int wrong);
    }

    void with(int[] wrong, int due, CallWith... calls) {
        for (State state : State.values()) {
            for (int argument : wrong) {
                for (CallWith call : calls) {
                    Trial sets = state.made(checks);
                    call.on(sets, argument).is(due);
                    state.holdsIn(sets);
                }
            }
        }
    }

    void onEverySet(int[] wrong, int due, CallOnSetWith... calls) {
        for (int s = 0; s < 4; s++) {
            int set = s;
            for (CallOnSetWith call : calls) {
                with(wrong, due, (sets, argument) -> call.on(sets, set, argument));
            }
        }
    }
}
