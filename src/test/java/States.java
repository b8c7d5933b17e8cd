import java.util.ArrayList;
import java.util.List;

/** Runs to states in which edges are looked at: nothing yet, some of all, all that there can be, the last day. */
final class States {
    /** As the constructor leaves it: no PLAN, no PILES, no ORDER, no image. */
    static final String[] NEW = {};

    /**
     * Some of all: BLOCKS 1, 2 and 4 are TAKEN, 0 and 3 stand FREE, two PILES, an ORDER that was asked
     * before that, an image without a PLAN, one with it, and none of number 2.
     */
    static final String[] BUSY = {
        "wall(3, 3)", "cell(2, 2, 9, 5)", "motifs(0, 0x11000000)", "limit(20)", "saw(3)", "river(1, 1)", "river(4, 2)",
        "image(0)", "plan()", "order()", "take(4)", "image(1)", "take(1)", "days(5)", "take(2)",
    };

    /** The largest WALL in 64 BLOCKS, all of which stand: BLOCK 8 * column + row has that CELL. */
    static final String[] LARGEST = {"wall(8, 8)", "limit(10)", "plan()", "order()"};

    /** All 64 BLOCKS TAKEN, row by row from above and from the left, on eight PILES. */
    static final String[] ALL_TAKEN = allTaken();

    /** DAY 5000, with BLOCK 2 of three TAKEN and the others FREE. */
    static final String[] LAST_DAY = lastDay();

    private States() {
    }

    private static String[] allTaken() {
        List<String> calls = new ArrayList<>(List.of(LARGEST));
        for (int row = 7; row >= 0; row--) {
            for (int column = 0; column < 8; column++) {
                calls.add("take(" + (8 * column + row) + ")");
            }
        }
        return calls.toArray(new String[0]);
    }

    private static String[] lastDay() {
        List<String> calls = new ArrayList<>(List.of("wall(3, 1)", "limit(10)", "plan()", "order()", "take(2)"));
        for (int k = 0; k < 49; k++) {
            calls.add("days(100)");
        }
        calls.add("days(99)");
        return calls.toArray(new String[0]);
    }
}
