import java.util.List;

/** Edges held fast: what may just be, what may just not be, and that a refused call leaves a house as it was. */
final class Edges {
    interface State {
        void build(ShareHouse x);
    }

    interface Call {
        long on(ShareHouse x);
    }

    interface NumberCall {
        long on(ShareHouse x, int v);
    }

    private final Checks checks = new Checks();

    static ShareHouse made(State state) {
        ShareHouse x = new ShareHouse();
        state.build(x);
        return x;
    }

    void due(String sentence, long got, long want) {
        checks.due(sentence, got, want);
    }

    void end(String name) {
        checks.end(name);
    }

    /** The answer of a call in a state. */
    void answers(String sentence, State state, Call call, long want) {
        due(sentence, call.on(made(state)), want);
    }

    /** The call is refused, and whatever is asked behind it is answered as if it had not been made. */
    void refused(String sentence, State state, Call call, long want) {
        answers(sentence, state, call, want);
        changesNothing(sentence, state, call);
    }

    void changesNothing(String sentence, State state, Call call) {
        leaves(sentence, state, call, state);
    }

    /** Behind the call all is as in another state. */
    void leaves(String sentence, State state, Call call, State other) {
        due(sentence + ": probes that tell a change", unlike(state, call, other), 0);
    }

    /** Behind the call something is other than it was: what the probes can see at all. */
    void changes(String sentence, State state, Call call) {
        due(sentence + ": a probe tells the change", unlike(state, call, state) > 0 ? 1 : 0, 1);
    }

    private static int unlike(State state, Call call, State other) {
        int unlike = 0;
        for (List<Call> probes : Probes.GROUPS) {
            ShareHouse touched = made(state);
            call.on(touched);
            ShareHouse twin = made(other);
            for (Call probe : probes) {
                if (probe.on(touched) != probe.on(twin)) {
                    unlike++;
                }
            }
        }
        return unlike;
    }

    /** A number may be from least to most; just beyond, and far beyond, it is refused. */
    void bounds(String sentence, State state, int least, int most, NumberCall call, long refusal) {
        for (int v : new int[] {least, most}) {
            due(sentence + ": " + v + " is refused", call.on(made(state), v) == refusal ? 1 : 0, 0);
        }
        for (int v : new int[] {least - 1, most + 1, Integer.MIN_VALUE, Integer.MAX_VALUE}) {
            refused(sentence + ": " + v, state, x -> call.on(x, v), refusal);
        }
    }

    /** There is room for so many more: the first answers so, each one more, and the one behind the last is FULL. */
    void room(String sentence, State state, int more, int first, Call call) {
        ShareHouse x = made(state);
        for (int i = 0; i < more; i++) {
            due(sentence + ": one more, " + i, call.on(x), first + i);
        }
        State full = y -> {
            state.build(y);
            for (int i = 0; i < more; i++) {
                call.on(y);
            }
        };
        refused(sentence + ": beyond the last", full, call, ShareHouse.FULL);
    }
}
