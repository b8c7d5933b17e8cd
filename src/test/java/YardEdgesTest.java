/** Promise 16, and what 'Terms' 3 says of PILES: each sentence at its edges. */
public final class YardEdgesTest {
    private static final Check CHECK = new Check();
    private static final int NONE = TempleRaised.NONE;

    public static void main(String[] args) {
        firstPile();
        newPileIfThereIsNoneSuch();
        leastTurnOfThoseAbove();
        uppermostAlone();
        mostPiles();
        highestPile();
        placesFromBelow();
        noSuchPile();
        noSuchPlace();
        noPiles();
        pilesThatWere();
        CHECK.end();
    }

    private static Sentence sentence(String sentence) {
        return new Sentence(CHECK, sentence);
    }

    /** One BLOCK of one CELL in each COLUMN, so that numbers are TURNS. */
    private static Sentence row(String sentence, int columns) {
        return sentence(sentence).with("wall(" + columns + ", 1)", "limit(10)").due("plan()", columns);
    }

    private static void firstPile() {
        row("16: a new PILE, as there are none", 1).due("count(5)", 0).due("take(0)", 0).due("count(5)", 1)
                .due("piled(0, 0)", 0).due("block(0, 9)", 0);
        row("16: a new PILE for the last TURN", 8).due("take(7)", 0).due("piled(0, 0)", 7).due("count(5)", 1);
    }

    private static void newPileIfThereIsNoneSuch() {
        row("16: the TURN next above an uppermost one's", 4).with("take(1)").due("take(2)", 1)
                .row("piled(0, ", 1, NONE).row("piled(1, ", 2, NONE).due("count(5)", 2);
        row("16: the TURN next below an uppermost one's", 4).with("take(2)").due("take(1)", 0)
                .row("piled(0, ", 2, 1, NONE).due("count(5)", 1);
        row("16: a new PILE, the last TURN of all", 4).with("take(0)").due("take(3)", 1).due("count(5)", 2);
        row("16: the first TURN of all needs none", 4).with("take(3)").due("take(0)", 0).due("count(5)", 1);
    }

    private static void leastTurnOfThoseAbove() {
        row("16: the least TURN of those above its own", 5).due("take(2)", 0).due("take(4)", 1)
                .due("take(3)", 1).due("take(1)", 0).due("take(0)", 0)
                .row("piled(0, ", 2, 1, 0, NONE).row("piled(1, ", 4, 3, NONE);
        row("16: the least TURN is on the first PILE", 6).due("take(3)", 0).due("take(4)", 1).due("take(5)", 2)
                .due("take(2)", 0).due("take(1)", 0).due("take(0)", 0);
        row("16: the least TURN is on the last PILE", 6).due("take(0)", 0).due("take(1)", 1).due("take(5)", 2)
                .due("take(4)", 2).due("take(3)", 2).due("take(2)", 2).row("piled(2, ", 5, 4, 3, 2, NONE);
        // Uppermost are 0, 3 and 5 by piles: for 2 there is 3, for 4 there would be 5.
        row("16: the least TURN is on a PILE between", 6).due("take(0)", 0).due("take(3)", 1).due("take(5)", 2)
                .due("take(2)", 1).due("take(4)", 2).due("take(1)", 1);
    }

    private static void uppermostAlone() {
        // Below the uppermost one lies 7, which is above 5, but the uppermost is not.
        row("16: whose uppermost has it", 8).due("take(7)", 0).due("take(3)", 0).due("take(5)", 1)
                .row("piled(0, ", 7, 3, NONE).row("piled(1, ", 5, NONE).due("take(4)", 1).due("take(2)", 0)
                .due("take(6)", 2).due("count(5)", 3);
    }

    private static void mostPiles() {
        Sentence then = row("16: as many PILES as BLOCKS", 8);
        for (int block = 0; block < 8; block++) {
            then.due("take(" + block + ")", block).due("count(5)", block + 1);
        }
        for (int pile = 0; pile < 8; pile++) {
            then.row("piled(" + pile + ", ", pile, NONE).due("block(" + pile + ", 9)", pile);
        }
        then.due("piled(8, 0)", NONE);
        Sentence all = sentence("16: eight PILES of eight").with(States.ALL_TAKEN).due("count(5)", 8);
        for (int pile = 0; pile < 8; pile++) {
            int first = 8 * pile;
            all.row("piled(" + pile + ", ", first + 7, first + 6, first + 5, first + 4, first + 3, first + 2, first + 1, first, NONE);
        }
    }

    private static void highestPile() {
        Sentence then = sentence("16: all 64 on one PILE").with("wall(8, 8)", "limit(10)", "plan()");
        for (int turn = 63; turn >= 0; turn--) {
            then.due("take(" + (turn % 8 * 8 + turn / 8) + ")", 0);
        }
        then.due("count(5)", 1).due("count(3)", 64).due("piled(1, 0)", NONE);
        for (int k = 0; k < 64; k++) {
            int turn = 63 - k;
            then.due("piled(0, " + k + ")", turn % 8 * 8 + turn / 8);
        }
        then.due("piled(0, 64)", NONE).due("piled(0, -1)", NONE);
    }

    private static void placesFromBelow() {
        sentence("16: place k from below").with(States.BUSY).row("piled(0, ", 4, 1, NONE).row("piled(1, ", 2, NONE)
                .unchanged("piled(0, 0)", 4).unchanged("piled(1, 0)", 2);
    }

    private static void noSuchPile() {
        sentence("16: NONE, there is no such PILE").with(States.BUSY)
                .refused("piled(-1, 0)", "piled(2, 0)", "piled(64, 0)", "piled(MIN, 0)", "piled(MAX, 0)", "piled(-1, -1)");
        sentence("16: NONE, there is no such PILE, of eight").with(States.ALL_TAKEN)
                .refused("piled(8, 0)", "piled(-1, 0)", "piled(63, 0)");
    }

    private static void noSuchPlace() {
        sentence("16: NONE, there is no such place").with(States.BUSY)
                .refused("piled(0, -1)", "piled(0, 2)", "piled(1, 1)", "piled(0, 64)", "piled(0, MIN)", "piled(0, MAX)", "piled(1, -1)");
        sentence("16: NONE, there is no such place, of eight").with(States.ALL_TAKEN)
                .refused("piled(0, 8)", "piled(7, 8)", "piled(7, -1)", "piled(0, 63)");
    }

    private static void noPiles() {
        sentence("16: NONE, of a new object").refused("piled(0, 0)", "piled(-1, -1)", "piled(MAX, MAX)", "piled(MIN, MIN)");
        sentence("16: NONE, all stand").with(States.LARGEST).refused("piled(0, 0)", "piled(-1, 0)", "piled(-1, -1)", "piled(0, -1)");
        sentence("16: none behind plan()").with(States.ALL_TAKEN).with("plan()").due("piled(0, 0)", NONE)
                .due("piled(7, 7)", NONE).due("count(5)", 0).due("take(7)", 0).row("piled(0, ", 7, NONE).due("count(5)", 1);
        sentence("16: none behind wall()").with(States.BUSY).with("wall(3, 3)").due("piled(0, 0)", NONE)
                .with("plan()").due("piled(0, 0)", NONE).due("count(5)", 0);
        sentence("16: they stay when plan() finds none").with(States.BUSY).with("limit(9)").due("plan()", NONE)
                .row("piled(0, ", 4, 1, NONE).row("piled(1, ", 2, NONE).due("count(5)", 2);
    }

    private static void pilesThatWere() {
        row("16: an uppermost one of PILES that were counts for nothing", 8).with("take(0)", "take(1)", "take(2)")
                .with("plan()").due("take(7)", 0).due("take(0)", 0).row("piled(0, ", 7, 0, NONE).due("count(5)", 1);
        row("16: a place in PILES that were counts for nothing", 8).with("take(7)", "take(6)", "take(5)").row("piled(0, ", 7, 6, 5)
                .with("plan()").due("take(5)", 0).due("take(6)", 1).row("piled(0, ", 5, NONE).row("piled(1, ", 6, NONE);
        row("16: PILES of an image, not those that were", 8).with("take(7)", "image(0)", "take(6)", "take(5)", "again(0)")
                .row("piled(0, ", 7, NONE).due("take(5)", 0).due("take(6)", 1).row("piled(0, ", 7, 5, NONE).row("piled(1, ", 6, NONE);
    }
}
