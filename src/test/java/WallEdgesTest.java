/** Promises 1 to 6, and what 'Terms' 1 and 3 bound there: each sentence at its edges. */
public final class WallEdgesTest {
    private static final Check CHECK = new Check();
    private static final int NONE = TempleRaised.NONE;

    public static void main(String[] args) {
        newWall();
        newObjectHasNoPlan();
        newObjectHasNoWater();
        newObjectHasNoImages();
        leastWall();
        largestWall();
        longAndTallWalls();
        wrongWalls();
        wallHasCellsAsAtFirst();
        wallEndsPlanAndPiles();
        wallLeavesTheRest();
        cellsAtTheCorners();
        noSuchCells();
        noCellsOfALargerWall();
        weightsOfACell();
        motifsOfACell();
        cellChangesOneCell();
        cellEndsPlanAndPiles();
        rowsOfMotifs();
        noSuchRows();
        highestIsColumnNought();
        halfBytesOfNine();
        halfBytesAboveNine();
        halfBytesBeyondTheWall();
        motifsChangeMotifsOfOneRow();
        motifsEndPlanAndPiles();
        limits();
        limitIsBorne();
        limitLeavesThePlan();
        saws();
        sawIsFromNowOn();
        CHECK.end();
    }

    private static Sentence sentence(String sentence) {
        return new Sentence(CHECK, sentence);
    }

    // Promise 1

    private static void newWall() {
        sentence("1: 4 and 4, WEIGHT 10, LIMIT 40, SAW 1, DAY 0 at first")
                .row("count(", 4, 4, 0, 0, 0, 0, 0, 160, 40, 1, 0, NONE);
        sentence("1: each CELL weighs 10 and has no MOTIF at first")
                .with("limit(9)").due("plan()", NONE)
                .with("limit(10)").due("plan()", 16).due("block(0, 4)", 10).due("block(15, 4)", 10);
        sentence("1: the crane bears 40 at first")
                .due("plan()", 4).due("block(0, 4)", 40).due("block(3, 4)", 40);
        sentence("1: COLUMNS and ROWS 0 .. 3 at first")
                .with("cell(3, 3, 10, 0)", "cell(0, 0, 10, 0)")
                .refused("cell(4, 3, 10, 0)", "cell(3, 4, 10, 0)");
        sentence("1: SAW is 1 at first").with("plan()").due("block(0, 10)", 399);
    }

    private static void newObjectHasNoPlan() {
        sentence("1: no PLAN at hand")
                .refused("block(0, 0)", "block(0, 7)", "block(0, 11)", "at(0, 0)", "at(3, 3)", "above(0, 0)", "above(1, 0)")
                .refused("take(0)", "order()", "ordered(0)", "piled(0, 0)")
                .unchanged("count(2)", 0).unchanged("count(4)", 0);
    }

    private static void newObjectHasNoWater() {
        sentence("1: HEIGHT 0 at first, in each MONTH").with("limit(160)", "plan()").due("block(0, 5)", NONE)
                .due("order()", 0).due("take(0)", 0).due("block(0, 11)", 0);
    }

    private static void newObjectHasNoImages() {
        sentence("1: no images").refused("again(0)", "again(1)", "again(2)");
    }

    // Promise 2

    private static void leastWall() {
        sentence("2: 1 and 1 are the least").due("wall(1, 1)", true)
                .row("count(", 1, 1, 0, 0, 0, 0, 0, 10, 40, 1, 0)
                .refused("wall(0, 1)", "wall(1, 0)", "wall(0, 0)")
                .due("plan()", 1).due("at(0, 0)", 0).due("at(1, 0)", NONE).due("at(0, 1)", NONE)
                .refused("cell(1, 0, 1, 0)", "cell(0, 1, 1, 0)", "motifs(1, 0)")
                .due("cell(0, 0, 1, 9)", true).due("count(7)", 1);
    }

    private static void largestWall() {
        sentence("2: 8 and 8 are the most").due("wall(8, 8)", true)
                .row("count(", 8, 8, 0, 0, 0, 0, 0, 640, 40, 1, 0)
                .refused("wall(9, 8)", "wall(8, 9)", "wall(9, 9)")
                .due("cell(7, 7, 50, 9)", true).due("motifs(7, 0)", true)
                .refused("cell(8, 7, 1, 0)", "cell(7, 8, 1, 0)", "motifs(8, 0)");
    }

    private static void longAndTallWalls() {
        sentence("2: w COLUMNS, h ROWS").due("wall(8, 1)", true).due("count(0)", 8).due("count(1)", 1)
                .due("cell(7, 0, 10, 0)", true).due("cell(0, 1, 10, 0)", false)
                .due("wall(1, 8)", true).due("count(0)", 1).due("count(1)", 8)
                .due("cell(0, 7, 10, 0)", true).due("cell(1, 0, 10, 0)", false);
        for (int side = 1; side <= 8; side++) {
            sentence("2: w and h 1 .. 8").due("wall(" + side + ", " + (9 - side) + ")", true)
                    .due("count(0)", side).due("count(1)", 9 - side).due("count(7)", side * (9 - side) * 10);
        }
    }

    private static void wrongWalls() {
        String[] wrong = {
            "wall(0, 4)", "wall(4, 0)", "wall(-1, 4)", "wall(4, -1)", "wall(9, 4)", "wall(4, 9)", "wall(MIN, 4)",
            "wall(4, MIN)", "wall(MAX, 4)", "wall(4, MAX)", "wall(MIN, MIN)", "wall(MAX, MAX)", "wall(0, 9)", "wall(9, 0)",
        };
        sentence("2: false for others, of a new object").refused(wrong);
        sentence("2: false for others").with(States.BUSY).refused(wrong);
        sentence("2: false for others, all BLOCKS TAKEN").with(States.ALL_TAKEN).refused("wall(9, 8)", "wall(8, 0)");
        sentence("2: false for others, on the last DAY").with(States.LAST_DAY).refused("wall(0, 1)", "wall(3, 9)");
    }

    private static void wallHasCellsAsAtFirst() {
        sentence("2: CELLS as at first, in a WALL as large as before")
                .with("wall(8, 8)", "cell(0, 0, 50, 9)", "cell(1, 0, 50, 9)", "cell(7, 7, 50, 9)", "cell(7, 6, 50, 9)")
                .due("wall(8, 8)", true).due("count(7)", 640).with("limit(10)").due("plan()", 64);
        sentence("2: CELLS as at first, behind a smaller WALL")
                .with("wall(8, 8)", "cell(7, 7, 50, 9)", "cell(6, 7, 50, 9)", "wall(1, 1)")
                .due("wall(8, 8)", true).due("count(7)", 640).with("limit(10)").due("plan()", 64);
        sentence("2: CELLS as at first, in a larger WALL").with("cell(3, 3, 50, 9)", "cell(2, 3, 50, 9)")
                .due("wall(5, 5)", true).due("count(7)", 250).with("limit(10)").due("plan()", 25);
    }

    private static void noPlanNorPiles(Sentence then) {
        then.due("count(2)", 0).due("count(3)", 0).due("count(4)", 0).due("count(5)", 0).due("count(10)", 0)
                .due("block(0, 0)", NONE).due("block(1, 7)", NONE).due("block(1, 9)", NONE).due("block(1, 11)", NONE)
                .due("at(0, 0)", NONE).due("above(1, 0)", false).due("take(0)", NONE).due("order()", NONE)
                .due("ordered(0)", NONE).due("piled(0, 0)", NONE).due("piled(1, 0)", NONE);
    }

    private static void wallEndsPlanAndPiles() {
        noPlanNorPiles(sentence("2: no PLAN then, no PILES").with(States.BUSY).due("wall(3, 3)", true));
        noPlanNorPiles(sentence("2: no PLAN then, no PILES, of all TAKEN").with(States.ALL_TAKEN).due("wall(8, 8)", true));
    }

    private static void wallLeavesTheRest() {
        sentence("2: LIMIT, SAW, DAY, THE RIVER and images are none of the WALL's").with(States.BUSY)
                .due("wall(2, 3)", true).due("count(6)", 8).due("count(8)", 20).due("count(9)", 3)
                .due("plan()", 3).due("block(0, 5)", 30)
                .due("again(2)", false).due("again(1)", true).row("count(", 3, 3, 5, 1, 8, 1, 1, 89, 20, 3, 5);
    }

    // Promise 3

    private static void cellsAtTheCorners() {
        sentence("3: COLUMNS 0 .. w - 1, ROWS 0 .. h - 1").with("wall(5, 3)")
                .due("cell(0, 0, 11, 0)", true).due("count(7)", 151).due("cell(4, 0, 12, 0)", true).due("count(7)", 153)
                .due("cell(0, 2, 13, 0)", true).due("count(7)", 156).due("cell(4, 2, 14, 0)", true).due("count(7)", 160);
    }

    private static void noSuchCells() {
        String[] wrong = {
            "cell(3, 0, 10, 0)", "cell(0, 3, 10, 0)", "cell(3, 3, 10, 0)", "cell(-1, 0, 10, 0)", "cell(0, -1, 10, 0)",
            "cell(-1, 1, 10, 0)", "cell(8, 0, 10, 0)", "cell(0, 8, 10, 0)", "cell(MIN, 0, 10, 0)", "cell(0, MIN, 10, 0)",
            "cell(MAX, 0, 10, 0)", "cell(0, MAX, 10, 0)", "cell(9, 2, 40, 4)", "cell(2, 9, 40, 4)",
        };
        sentence("3: false, there is none such").with(States.BUSY).refused(wrong);
        sentence("3: false, there is none such, of the largest WALL").with("wall(8, 8)")
                .refused("cell(8, 0, 20, 1)", "cell(0, 8, 20, 1)", "cell(-1, 1, 20, 1)", "cell(7, -1, 20, 1)");
        sentence("3: false, there is none such, all TAKEN").with(States.ALL_TAKEN).refused("cell(8, 7, 10, 0)");
        sentence("3: false, there is none such, on the last DAY").with(States.LAST_DAY).refused("cell(0, 1, 10, 0)");
    }

    private static void noCellsOfALargerWall() {
        sentence("3: none of a larger WALL that was").with("wall(8, 8)", "wall(2, 2)")
                .due("cell(1, 1, 10, 0)", true)
                .refused("cell(2, 1, 10, 0)", "cell(1, 2, 10, 0)", "cell(7, 7, 10, 0)");
    }

    private static void weightsOfACell() {
        sentence("3: WEIGHT 1 .. 50").with("wall(2, 1)")
                .due("cell(0, 0, 1, 0)", true).due("count(7)", 11).due("cell(0, 0, 50, 0)", true).due("count(7)", 60);
        String[] wrong = {
            "cell(2, 1, 0, 0)", "cell(2, 1, 51, 0)", "cell(2, 1, -1, 0)", "cell(2, 1, MIN, 0)", "cell(2, 1, MAX, 0)",
        };
        sentence("3: false for another WEIGHT").with(States.BUSY).refused(wrong);
        sentence("3: false for another WEIGHT, of a new object").refused("cell(0, 0, 0, 1)", "cell(0, 0, 51, 1)");
    }

    private static void motifsOfACell() {
        for (int motif = 0; motif <= 9; motif++) {
            // Only of one motif, and if that is not none, the two can't be parted.
            sentence("3: MOTIF 0 .. 9, 0 is none").with("wall(2, 1)", "limit(10)")
                    .due("cell(0, 0, 10, " + motif + ")", true).due("plan()", 2)
                    .due("cell(1, 0, 10, " + motif + ")", true).due("plan()", motif == 0 ? 2 : NONE);
        }
        String[] wrong = {
            "cell(2, 1, 10, -1)", "cell(2, 1, 10, 10)", "cell(2, 1, 10, 15)", "cell(2, 1, 10, 16)", "cell(2, 1, 10, MIN)",
            "cell(2, 1, 10, MAX)", "cell(0, 0, 40, 10)", "cell(0, 0, 0, 10)",
        };
        sentence("3: false for another MOTIF").with(States.BUSY).refused(wrong);
        sentence("3: false for another MOTIF, of a new object").refused("cell(0, 0, 20, -1)", "cell(0, 0, 20, 10)");
    }

    private static void cellChangesOneCell() {
        sentence("3: one CELL's WEIGHT").with("wall(8, 8)", "limit(10)", "cell(3, 4, 1, 0)").due("count(7)", 631)
                .due("plan()", 64).due("block(28, 4)", 1).due("block(27, 4)", 10).due("block(29, 4)", 10)
                .due("block(20, 4)", 10).due("block(36, 4)", 10);
        sentence("3: another MOTIF is in the place of the one that was")
                .with("wall(2, 1)", "limit(10)", "cell(0, 0, 10, 1)", "cell(1, 0, 10, 1)").due("plan()", NONE)
                .due("cell(1, 0, 10, 0)", true).due("plan()", 2);
    }

    private static void cellEndsPlanAndPiles() {
        noPlanNorPiles(sentence("3: no PLAN then, no PILES").with(States.BUSY).due("cell(2, 2, 9, 5)", true)
                .due("count(7)", 89).due("count(6)", 8));
        noPlanNorPiles(sentence("3: no PLAN then, no PILES, of all TAKEN")
                .with(States.ALL_TAKEN).due("cell(7, 7, 10, 0)", true).due("count(6)", 64));
    }

    // Promise 4

    private static void rowsOfMotifs() {
        sentence("4: ROWS 0 .. h - 1").with("wall(2, 8)", "limit(10)")
                .due("motifs(0, 0x11000000)", true).due("plan()", NONE)
                .due("motifs(0, 0x00000000)", true).due("plan()", 16)
                .due("motifs(7, 0x11000000)", true).due("plan()", NONE)
                .due("motifs(7, 0x12000000)", true).due("plan()", 16);
    }

    private static void noSuchRows() {
        String[] wrong = {
            "motifs(-1, 0)", "motifs(3, 0)", "motifs(8, 0)", "motifs(MIN, 0)", "motifs(MAX, 0)", "motifs(3, 0x22200000)",
            "motifs(-1, 0x22200000)",
        };
        sentence("4: false, there is no such ROW").with(States.BUSY).refused(wrong);
        sentence("4: false, there is no such ROW, of a new object").refused("motifs(4, 0x10000000)", "motifs(-1, 0)");
        sentence("4: false, there is no such ROW, of the largest").with(States.ALL_TAKEN).refused("motifs(8, 0)");
        sentence("4: false, there is no such ROW, on the last DAY").with(States.LAST_DAY).refused("motifs(1, 0)");
    }

    private static void highestIsColumnNought() {
        for (int column = 0; column < 7; column++) {
            int eight = 0x11000000 >>> (4 * column);
            sentence("4: by half bytes, the highest for COLUMN 0").with("wall(8, 1)", "limit(10)")
                    .due("motifs(0, " + eight + ")", true).due("plan()", NONE)
                    .with("cell(" + column + ", 0, 5, 1)", "cell(" + (column + 1) + ", 0, 5, 1)").due("plan()", 7)
                    .due("block(" + column + ", 2)", 2).due("block(" + column + ", 0)", column);
        }
    }

    private static void halfBytesOfNine() {
        for (int column = 0; column < 8; column++) {
            int nine = 0x90000000 >>> (4 * column);
            sentence("4: 9 is the most").with("wall(8, 2)", "limit(10)", "cell(" + column + ", 1, 10, 9)")
                    .due("motifs(0, " + nine + ")", true).due("plan()", NONE)
                    .with("cell(" + column + ", 1, 10, 8)").due("plan()", 16);
        }
        sentence("4: all are 9").with("wall(8, 1)").due("motifs(0, 0x99999999)", true)
                .with("limit(79)").due("plan()", NONE).with("limit(80)").due("plan()", 1);
        sentence("4: all are none").with("wall(8, 1)", "motifs(0, 0x99999999)").due("motifs(0, 0)", true)
                .with("limit(10)").due("plan()", 8);
    }

    private static void halfBytesAboveNine() {
        for (int column = 0; column < 8; column++) {
            int ten = 0xA0000000 >>> (4 * column);
            int fifteen = 0x22222222 | 0xF0000000 >>> (4 * column);
            // Three columns wide, so that most of these are beyond the wall.
            sentence("4: false, one is above 9").with(States.BUSY)
                    .refused("motifs(0, " + ten + ")", "motifs(2, " + fifteen + ")");
            sentence("4: false, one is above 9, of eight COLUMNS").with("wall(8, 1)", "motifs(0, 0x12345678)")
                    .refused("motifs(0, " + ten + ")", "motifs(0, " + fifteen + ")");
        }
        sentence("4: false, the first are good").with(States.BUSY)
                .refused("motifs(0, 0x2200000A)", "motifs(1, 0x33A00000)", "motifs(0, -1)", "motifs(0, MAX)")
                .refused("motifs(0, 0xAAAAAAAA)", "motifs(0, 15)", "motifs(3, 15)");
        sentence("4: the least int has 8 in COLUMN 0").with("wall(1, 2)", "limit(10)", "cell(0, 1, 10, 8)")
                .due("motifs(0, MIN)", true).due("plan()", NONE);
    }

    private static void halfBytesBeyondTheWall() {
        for (int columns = 1; columns < 8; columns++) {
            // The last column has the motif of all beyond it, those ahead of it have others.
            int eight = 0x12345678 & -1 << 4 * (8 - columns);
            int beyond = 0x11111111 * columns & (1 << 4 * (8 - columns)) - 1;
            sentence("4: those beyond the WALL count for nothing").with("wall(" + columns + ", 2)", "limit(10)")
                    .due("motifs(0, " + (eight | beyond) + ")", true).due("plan()", 2 * columns);
        }
    }

    private static void motifsChangeMotifsOfOneRow() {
        sentence("4: WEIGHTS stay").with("wall(2, 2)", "cell(0, 0, 7, 3)", "cell(1, 0, 5, 3)")
                .due("motifs(0, 0x44000000)", true).due("count(7)", 32);
        sentence("4: other ROWS stay").with("wall(2, 3)", "limit(10)", "motifs(1, 0x55000000)")
                .due("motifs(0, 0)", true).due("motifs(2, 0)", true).due("plan()", NONE)
                .due("motifs(1, 0)", true).due("plan()", 6);
    }

    private static void motifsEndPlanAndPiles() {
        noPlanNorPiles(sentence("4: no PLAN then, no PILES").with(States.BUSY).due("motifs(0, 0x11000000)", true)
                .due("count(7)", 89).due("count(6)", 8));
        noPlanNorPiles(sentence("4: no PLAN then, no PILES, of all TAKEN")
                .with(States.ALL_TAKEN).due("motifs(7, 0)", true).due("count(6)", 64));
    }

    // Promise 5

    private static void limits() {
        sentence("5: LIMIT 1 .. 3200").due("limit(1)", true).due("count(8)", 1)
                .due("limit(3200)", true).due("count(8)", 3200);
        String[] wrong = {"limit(0)", "limit(-1)", "limit(3201)", "limit(MIN)", "limit(MAX)"};
        sentence("5: false for others").with(States.BUSY).refused(wrong);
        sentence("5: false for others, of a new object").refused(wrong);
        sentence("5: false for others, all TAKEN").with(States.ALL_TAKEN).refused("limit(0)", "limit(3201)");
        sentence("5: false for others, on the last DAY").with(States.LAST_DAY).refused("limit(0)", "limit(3201)");
    }

    private static void limitIsBorne() {
        sentence("5: the crane bears 1").with("wall(1, 1)", "cell(0, 0, 1, 0)", "limit(1)").due("plan()", 1)
                .with("cell(0, 0, 2, 0)").due("plan()", NONE);
        Sentence heaviest = sentence("5: the crane bears 3200").with("wall(8, 8)");
        for (int cell = 0; cell < 64; cell++) {
            heaviest.with("cell(" + cell / 8 + ", " + cell % 8 + ", 50, 0)");
        }
        heaviest.due("count(7)", 3200).with("limit(3200)").due("plan()", 1).due("block(0, 4)", 3200)
                .with("limit(3199)").due("plan()", 2).due("block(0, 4)", 400).due("block(1, 4)", 2800)
                .with("limit(49)").due("plan()", NONE).with("limit(50)").due("plan()", 64);
    }

    private static void limitLeavesThePlan() {
        sentence("5: a PLAN at hand stays").with(States.BUSY).due("limit(1)", true)
                .row("count(", 3, 3, 5, 3, 8, 2, 8, 89, 1, 3, 5)
                .row("ordered(", 1, 2, 4, 0, 3, NONE).row("piled(0, ", 4, 1, NONE).row("piled(1, ", 2, NONE)
                .due("block(0, 4)", 20).due("block(0, 8)", 1).due("take(0)", 0);
        sentence("5: a PLAN at hand stays, the crane bears more").with(States.BUSY).due("limit(3200)", true)
                .row("count(", 3, 3, 5, 3, 8, 2, 8, 89, 3200, 3, 5);
    }

    // Promise 6

    private static void saws() {
        sentence("6: SAW 1 .. 9").due("saw(9)", true).due("count(9)", 9).due("saw(1)", true).due("count(9)", 1);
        String[] wrong = {"saw(0)", "saw(-1)", "saw(10)", "saw(MIN)", "saw(MAX)"};
        sentence("6: false for others").with(States.BUSY).refused(wrong);
        sentence("6: false for others, of a new object").refused(wrong);
        sentence("6: false for others, all TAKEN").with(States.ALL_TAKEN).refused("saw(0)", "saw(10)");
        sentence("6: false for others, on the last DAY").with(States.LAST_DAY).refused("saw(0)", "saw(10)");
    }

    private static void sawIsFromNowOn() {
        sentence("6: SAW from now on, for the PLAN at hand").with("wall(3, 1)", "limit(10)", "plan()")
                .due("block(0, 10)", 199).due("block(1, 10)", 198).due("block(2, 10)", 199)
                .due("saw(9)", true).due("block(0, 10)", 191).due("block(1, 10)", 182).due("block(2, 10)", 191);
        sentence("6: a PLAN, PILES and THE ORDER stay").with(States.BUSY).due("saw(9)", true)
                .row("count(", 3, 3, 5, 3, 8, 2, 8, 89, 20, 9, 5)
                .row("ordered(", 1, 2, 4, 0, 3, NONE).row("piled(0, ", 4, 1, NONE).row("piled(1, ", 2, NONE);
    }
}
