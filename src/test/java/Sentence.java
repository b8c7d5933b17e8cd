/** One sentence of the document at an edge: a run of calls with the answers that are due. */
final class Sentence {
    private final Check check;
    private final String sentence;
    private final Run run = new Run();
    private Seen seen;
    private Seen marked;

    Sentence(Check check, String sentence) {
        this.check = check;
        this.sentence = sentence;
    }

    /** Calls that bring the object to a state; none of them may be refused. */
    Sentence with(String... calls) {
        for (String text : calls) {
            Call call = Call.of(text);
            check.due(told(text) + " is refused", call.isRefusedBy(make(call)), false);
        }
        return this;
    }

    Sentence times(int number, String text) {
        for (int k = 0; k < number; k++) {
            with(text);
        }
        return this;
    }

    Sentence due(String text, int want) {
        check.due(told(text), make(Call.of(text)), want);
        return this;
    }

    Sentence due(String text, boolean want) {
        return due(text, want ? 1 : 0);
    }

    /** What a call answers for the numbers from 0 on that stand behind those of the text. */
    Sentence row(String name, int... want) {
        for (int k = 0; k < want.length; k++) {
            due(name + k + ")", want[k]);
        }
        return this;
    }

    /** A call that is refused, or asks alone: nothing may have changed behind it. */
    Sentence unchanged(String text, int want) {
        if (seen == null) {
            seen = new Seen(run);
        }
        Seen before = seen;
        due(text, want);
        seen = new Seen(run);
        String unlike = seen.firstUnlike(before);
        check.due(told(text) + " changes nothing; but " + unlike + ": alike", unlike.isEmpty(), true);
        return this;
    }

    Sentence unchanged(String text, boolean want) {
        return unchanged(text, want ? 1 : 0);
    }

    Sentence refused(String... calls) {
        for (String text : calls) {
            Call call = Call.of(text);
            unchanged(text, call.answersBoolean() ? 0 : TempleRaised.NONE);
        }
        return this;
    }

    /** All that is told now is to be compared with later. */
    Sentence mark() {
        marked = new Seen(run);
        return this;
    }

    Sentence asMarked() {
        String unlike = new Seen(run).firstUnlike(marked);
        check.due(told("as it was") + "; but " + unlike + ": alike", unlike.isEmpty(), true);
        return this;
    }

    private int make(Call call) {
        seen = null;
        return run.make(call);
    }

    private String told(String text) {
        return sentence + ": call " + run.length() + ": " + text;
    }
}
