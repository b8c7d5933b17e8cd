import java.util.ArrayList;
import java.util.List;

/**
 * A run of calls. No object is used for more than the 512 calls that the document promises: when
 * questions have used one up, another one is brought to the same state.
 */
final class Run {
    static final int MOST_CALLS = 512;

    private final List<Call> made;
    private TempleRaised x = new TempleRaised();
    private int calls;

    Run() {
        made = new ArrayList<>();
    }

    private Run(List<Call> calls) {
        made = new ArrayList<>(calls);
        bringToState();
    }

    Run copy() {
        return new Run(made);
    }

    int length() {
        return made.size();
    }

    /** A call that belongs to the run. */
    int make(Call call) {
        int answer = answerOf(call);
        made.add(call);
        return answer;
    }

    /** A call that changes nothing, so that the run is the same without it. */
    int ask(Call call) {
        return answerOf(call);
    }

    private int answerOf(Call call) {
        if (made.size() >= MOST_CALLS) {
            throw new IllegalStateException("nothing is promised behind " + MOST_CALLS + " calls");
        }
        if (calls >= MOST_CALLS) {
            bringToState();
        }
        calls++;
        return call.on(x);
    }

    private void bringToState() {
        x = new TempleRaised();
        for (Call call : made) {
            call.on(x);
        }
        calls = made.size();
    }
}
