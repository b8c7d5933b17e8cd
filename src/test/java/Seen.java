import java.util.ArrayList;
import java.util.List;

/**
 * All that the calls tell of the state that a run has come to, of its images too. What can't be asked
 * for, such as a cell's motif or a month's height, is found out by calls that change a copy.
 */
final class Seen {
    private static final int IMAGES = 3;
    private static final int MONTHS = 12;

    private final List<String> places = new ArrayList<>();
    private final List<Call> asked = new ArrayList<>();
    private final List<Integer> answers = new ArrayList<>();

    Seen(Run run) {
        look("", run);
        for (int k = 0; k < IMAGES; k++) {
            Run then = run.copy();
            if (make("", then, "again", k) == 1) {
                look("in image " + k + ": ", then);
            }
        }
    }

    /** What is seen first that the other one has not; none: all is the same. */
    String firstUnlike(Seen before) {
        int both = Math.min(answers.size(), before.answers.size());
        for (int k = 0; k < both; k++) {
            String question = places.get(k) + asked.get(k);
            if (!question.equals(before.places.get(k) + before.asked.get(k))) {
                return question;
            }
            if (!answers.get(k).equals(before.answers.get(k))) {
                return question + " answered " + before.answers.get(k) + ", and " + answers.get(k) + " behind it";
            }
        }
        return answers.size() == before.answers.size() ? "" : "the number of answers";
    }

    private int note(String place, Call call, int answer) {
        places.add(place);
        asked.add(call);
        answers.add(answer);
        return answer;
    }

    private int ask(String place, Run run, String name, int... numbers) {
        Call call = new Call(name, numbers);
        return note(place, call, run.ask(call));
    }

    private int make(String place, Run run, String name, int... numbers) {
        Call call = new Call(name, numbers);
        return note(place, call, run.make(call));
    }

    private void look(String place, Run run) {
        Run asking = run.copy();
        counts(place, asking);
        blocks(place, asking);
        cells(place, asking);
        order(place, asking);
        piles(place, asking);
        river(place + "month by month: ", run.copy());
        weights(place + "cell by cell: ", run.copy());
        motifs(place + "motif by motif: ", run);
        goOn(place + "later: ", run.copy());
    }

    private void counts(String place, Run run) {
        for (int what = -1; what <= 11; what++) {
            ask(place, run, "count", what);
        }
    }

    private static int count(Run run, int what) {
        return run.ask(new Call("count", what));
    }

    private void blocks(String place, Run run) {
        int blocks = count(run, 2);
        for (int block = 0; block <= blocks; block++) {
            for (int what = 0; what <= 11; what++) {
                ask(place, run, "block", block, what);
            }
            // Of many blocks those near by number alone, as all pairs would be thousands.
            for (int other = Math.max(0, block - 8); other <= Math.min(blocks, block + 8); other++) {
                ask(place, run, "above", block, other);
            }
        }
    }

    private void cells(String place, Run run) {
        for (int column = 0; column <= count(run, 0); column++) {
            for (int row = 0; row <= count(run, 1); row++) {
                ask(place, run, "at", column, row);
            }
        }
    }

    private void order(String place, Run run) {
        int places = count(run, 10);
        for (int k = -1; k <= places; k++) {
            ask(place, run, "ordered", k);
        }
    }

    private void piles(String place, Run run) {
        int piles = count(run, 5);
        int taken = count(run, 3);
        for (int pile = 0; pile <= piles; pile++) {
            int k = 0;
            while (k <= taken && ask(place, run, "piled", pile, k) != TempleRaised.NONE) {
                k++;
            }
        }
    }

    /** The first month over each row; then that month is laid dry, so that the next one shows. */
    private void river(String place, Run run) {
        make(place, run, "wall", 1, 8);
        make(place, run, "limit", 10);
        make(place, run, "plan");
        for (int month = 0; month < MONTHS; month++) {
            for (int row = 0; row < 8; row++) {
                ask(place, run, "block", row, 5);
            }
            make(place, run, "river", month, 0);
        }
    }

    /** What the wall loses when a cell is made as light as can be. */
    private void weights(String place, Run run) {
        int columns = count(run, 0);
        int rows = count(run, 1);
        for (int column = 0; column < columns; column++) {
            for (int row = 0; row < rows; row++) {
                make(place, run, "cell", column, row, 1, 0);
                ask(place, run, "count", 7);
            }
        }
    }

    private void motifs(String place, Run run) {
        int columns = count(run, 0);
        int rows = count(run, 1);
        for (int row = 0; row < rows && columns * rows > 1; row++) {
            for (int column = 0; column < columns; column++) {
                motif(place + "(" + column + ", " + row + ") ", run.copy(), column, row);
            }
        }
    }

    /** A neighbour gets each motif: it can't be cut off, and the two are too heavy, if that is the cell's too. */
    private void motif(String place, Run run, int column, int row) {
        int columns = count(run, 0);
        int rows = count(run, 1);
        for (int other = 0; other < rows; other++) {
            if (other != row) {
                run.make(new Call("motifs", other, 0));
            }
        }
        for (int other = 0; other < columns; other++) {
            if (other != column) {
                run.make(new Call("cell", other, row, 1, 0));
            }
        }
        run.make(new Call("limit", 50));
        int nearColumn = rows > 1 ? column : column == 0 ? 1 : column - 1;
        int nearRow = rows == 1 ? row : row == 0 ? 1 : row - 1;
        for (int motif = 1; motif <= 9; motif++) {
            run.make(new Call("cell", nearColumn, nearRow, 50, motif));
            Call plan = new Call("plan");
            note(place + motif + " ", plan, run.make(plan) == TempleRaised.NONE ? 1 : 0);
        }
    }

    /** All that stands is taken in the order that is told now. */
    private void goOn(String place, Run run) {
        make(place, run, "order");
        int places = Math.max(0, count(run, 10));
        for (int k = 0; k < places; k++) {
            make(place, run, "take", ask(place, run, "ordered", k));
        }
        counts(place, run);
        piles(place, run);
        make(place, run, "days", 1);
    }
}
