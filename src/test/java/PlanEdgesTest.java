/** Promises 7 to 10, and what 'Terms' 1, 2 and 3 say of PLANS and BLOCKS: each sentence at its edges. */
public final class PlanEdgesTest {
    private static final Check CHECK = new Check();
    private static final int NONE = TempleRaised.NONE;

    public static void main(String[] args) {
        notHeavierThanTheLimit();
        noCutBetweenCellsOfOneMotif();
        cutsBetweenCellsThatAreNoNeighbours();
        cutsBetweenOtherMotifs();
        carvedToTheCorners();
        cutsAllAlong();
        cutsBarredTwice();
        cutsThroughAPartAlone();
        fewestBlocksFirst();
        leastSawnThen();
        noCutAhead();
        uprightAheadOfLevel();
        leastColumn();
        leastRow();
        cutsAtTheEnds();
        levelAtTheEnds();
        numbersFromTheLeftAndBelow();
        mostBlocks();
        planStandsAnew();
        noPlan();
        noPlanAtHandBefore();
        blocksOfAPlan();
        noSuchBlocks();
        noSuchWhat();
        cellsOfBlocks();
        noSuchCells();
        aboveByOneCell();
        aboveNeitherSideNorFar();
        aboveNoSuchBlocks();
        free();
        turns();
        wide();
        CHECK.end();
    }

    private static Sentence sentence(String sentence) {
        return new Sentence(CHECK, sentence);
    }

    /** A BLOCK's first COLUMN, lowest ROW, COLUMNS and ROWS. */
    private static Sentence shape(Sentence then, int block, int left, int low, int columns, int rows) {
        return then.row("block(" + block + ", ", left, low, columns, rows);
    }

    // Promise 7

    private static void notHeavierThanTheLimit() {
        sentence("7: not heavier than the LIMIT, of one CELL").with("wall(1, 1)", "limit(10)").due("plan()", 1)
                .with("limit(9)").refused("plan()").with("limit(11)").due("plan()", 1);
        sentence("7: not heavier than the LIMIT, of the WALL").with("limit(160)").due("plan()", 1).due("count(4)", 0)
                .row("block(0, ", 0, 0, 4, 4, 160)
                .with("limit(159)").due("plan()", 2).due("count(4)", 4)
                .row("block(0, ", 0, 0, 1, 4, 40).row("block(1, ", 1, 0, 3, 4, 120);
        sentence("7: not heavier than the LIMIT, of what is carved")
                .with("wall(2, 1)", "motifs(0, 0x77000000)", "limit(20)").due("plan()", 1)
                .with("limit(19)").refused("plan()");
        sentence("7: not heavier than the LIMIT, one CELL of 64").with("wall(8, 8)", "limit(10)", "cell(7, 7, 11, 0)")
                .refused("plan()").with("limit(11)").due("plan()", 64);
    }

    private static void noCutBetweenCellsOfOneMotif() {
        for (int motif = 1; motif <= 9; motif++) {
            String own = ", 10, " + motif + ")";
            sentence("7: no upright CUT between two of one MOTIF").with("wall(2, 1)", "limit(10)", "cell(0, 0" + own)
                    .with("cell(1, 0" + own).due("plan()", NONE).with("limit(20)").due("plan()", 1);
            sentence("7: no level CUT between two of one MOTIF").with("wall(1, 2)", "limit(10)", "cell(0, 0" + own)
                    .with("cell(0, 1" + own).due("plan()", NONE).with("limit(20)").due("plan()", 1);
        }
        sentence("7: none aside").with("wall(2, 2)", "limit(10)").due("plan()", 4);
    }

    private static void cutsBetweenCellsThatAreNoNeighbours() {
        sentence("7: neighbours, not by a corner").with("wall(2, 2)", "limit(10)", "cell(0, 0, 10, 1)")
                .with("cell(1, 1, 10, 1)").due("plan()", 4);
        sentence("7: neighbours, not by the other corner").with("wall(2, 2)", "limit(10)", "cell(1, 0, 10, 1)")
                .with("cell(0, 1, 10, 1)").due("plan()", 4);
        sentence("7: neighbours, not one farther").with("wall(3, 3)", "limit(10)", "motifs(0, 0x10100000)")
                .with("motifs(2, 0x10100000)").due("plan()", 9);
        sentence("7: neighbours, not the ends of a ROW").with("wall(8, 1)", "limit(10)", "motifs(0, 0x10000001)")
                .due("plan()", 8);
        sentence("7: neighbours, not the ends of a COLUMN")
                .with("wall(1, 8)", "limit(10)", "cell(0, 0, 10, 1)", "cell(0, 7, 10, 1)").due("plan()", 8);
        sentence("7: neighbours, not the end of a ROW and the next one's beginning")
                .with("wall(8, 2)", "limit(10)", "cell(7, 0, 10, 1)", "cell(0, 1, 10, 1)").due("plan()", 16);
    }

    private static void cutsBetweenOtherMotifs() {
        sentence("7: one MOTIF, not two").with("wall(8, 1)", "limit(10)", "motifs(0, 0x12345678)").due("plan()", 8)
                .with("motifs(0, 0x98989898)").due("plan()", 8).with("motifs(0, 0x01020304)").due("plan()", 8);
    }

    private static void carvedToTheCorners() {
        // The last motif of each row is the first of the next one, up to the last cell of all.
        Sentence others = sentence("7: neighbours, each CELL of 64 has another MOTIF").with("wall(8, 8)", "limit(10)");
        for (int row = 0; row < 8; row++) {
            others.with("motifs(" + row + ", " + (row % 2 == 0 ? "0x12121212)" : "0x21212121)"));
        }
        others.due("plan()", 64).due("count(4)", 112);
        Sentence one = sentence("7: neighbours, all 64 CELLS have one MOTIF").with("wall(8, 8)", "limit(639)");
        for (int row = 0; row < 8; row++) {
            one.with("motifs(" + row + ", 0x99999999)");
        }
        one.refused("plan()").with("limit(640)").due("plan()", 1).due("count(4)", 0).due("block(0, 4)", 640);
    }

    private static void cutsAllAlong() {
        // Without what is carved the upright cut would be the one: it is as long as the level one.
        for (int row = 0; row < 2; row++) {
            Sentence level = sentence("7: all along it, barred in one ROW").with("wall(2, 2)", "limit(20)")
                    .with("motifs(" + row + ", 0x33000000)").due("plan()", 2).due("count(4)", 2);
            shape(level, 0, 0, 0, 2, 1);
            shape(level, 1, 0, 1, 2, 1);
        }
        // The level cut alone leaves two blocks; where it is barred there are three.
        for (int column = 0; column < 2; column++) {
            int heavy = 1 - column;
            Sentence barred = sentence("7: all along it, barred in one COLUMN").with("wall(2, 2)", "limit(11)")
                    .with("cell(" + heavy + ", 0, 10, 0)", "cell(" + heavy + ", 1, 10, 0)")
                    .with("cell(" + column + ", 0, 1, 0)", "cell(" + column + ", 1, 1, 0)")
                    .due("plan()", 2).due("count(4)", 2).due("block(0, 2)", 2)
                    .with("cell(" + column + ", 0, 1, 6)", "cell(" + column + ", 1, 1, 6)")
                    .due("plan()", 3).due("count(4)", 3);
            shape(barred, column == 0 ? 0 : 2, column, 0, 1, 2);
        }
        for (int row = 0; row < 8; row += 7) {
            sentence("7: all along eight ROWS").with("wall(2, 8)", "limit(80)", "motifs(" + row + ", 0x10000000)")
                    .with("cell(1, " + row + ", 10, 1)").due("plan()", 2).due("block(0, 2)", 2).due("count(4)", 2);
        }
    }

    private static void cutsBarredTwice() {
        // One carving is light enough, the other is not: it must not be cut because the first is there.
        for (int light = 0; light < 2; light++) {
            int heavy = 1 - light;
            sentence("7: between two CELLS, carved in two ROWS").with("wall(2, 2)", "limit(10)")
                    .with("motifs(0, 0x11000000)", "motifs(1, 0x22000000)")
                    .with("cell(0, " + light + ", 5, " + (light + 1) + ")", "cell(1, " + light + ", 5, " + (light + 1) + ")")
                    .refused("plan()").with("limit(20)").due("plan()", 2).due("block(" + heavy + ", 4)", 20);
            sentence("7: between two CELLS, carved in two COLUMNS").with("wall(2, 2)", "limit(10)")
                    .with("motifs(0, 0x12000000)", "motifs(1, 0x12000000)")
                    .with("cell(" + light + ", 0, 5, " + (light + 1) + ")", "cell(" + light + ", 1, 5, " + (light + 1) + ")")
                    .refused("plan()").with("limit(20)").due("plan()", 2).due("block(" + heavy + ", 4)", 20);
        }
    }

    private static void cutsThroughAPartAlone() {
        Sentence lower = sentence("7: through a PART, what is carved above it does not bar").with("wall(2, 2)", "limit(10)")
                .with("cell(0, 1, 5, 2)", "cell(1, 1, 5, 2)").due("plan()", 3).due("count(4)", 3);
        shape(lower, 0, 0, 0, 1, 1);
        shape(lower, 1, 1, 0, 1, 1);
        shape(lower, 2, 0, 1, 2, 1);
        Sentence upper = sentence("7: through a PART, what is carved below it does not bar").with("wall(2, 2)", "limit(10)")
                .with("cell(0, 0, 5, 2)", "cell(1, 0, 5, 2)").due("plan()", 3).due("count(4)", 3);
        shape(upper, 0, 0, 0, 2, 1);
        shape(upper, 1, 0, 1, 1, 1);
        shape(upper, 2, 1, 1, 1, 1);
        Sentence left = sentence("7: through a PART, what is carved to the right does not bar").with("wall(2, 2)", "limit(10)")
                .with("cell(1, 0, 5, 2)", "cell(1, 1, 5, 2)").due("plan()", 3).due("count(4)", 3);
        shape(left, 0, 0, 0, 1, 1);
        shape(left, 1, 0, 1, 1, 1);
        shape(left, 2, 1, 0, 1, 2);
        Sentence right = sentence("7: through a PART, what is carved to the left does not bar").with("wall(2, 2)", "limit(10)")
                .with("cell(0, 0, 5, 2)", "cell(0, 1, 5, 2)").due("plan()", 3).due("count(4)", 3);
        shape(right, 0, 0, 0, 1, 2);
        shape(right, 1, 1, 0, 1, 1);
        shape(right, 2, 1, 1, 1, 1);
        sentence("7: straight CUTS alone: four carvings like a wheel leave none").with("wall(3, 3)", "limit(89)")
                .with("motifs(0, 0x11200000)", "motifs(1, 0x30200000)", "motifs(2, 0x34400000)").refused("plan()")
                .with("limit(90)").due("plan()", 1).due("count(4)", 0);
    }

    private static void fewestBlocksFirst() {
        Sentence then = sentence("7: the fewest BLOCKS, even if more is SAWN").with("wall(5, 2)")
                .with("cell(1, 0, 1, 0)", "cell(3, 0, 1, 0)", "cell(1, 1, 1, 0)", "cell(3, 1, 1, 0)")
                .with("limit(32)").due("plan()", 2).due("count(4)", 5);
        shape(then, 0, 0, 0, 5, 1);
        shape(then, 1, 0, 1, 5, 1);
        then.with("limit(31)").due("plan()", 3).due("count(4)", 4);
        shape(then, 0, 0, 0, 1, 2);
        shape(then, 1, 1, 0, 2, 2);
        shape(then, 2, 3, 0, 2, 2);
    }

    private static void leastSawnThen() {
        Sentence upright = sentence("7: of several that with the least SAWN, upright").with("wall(3, 2)", "limit(40)")
                .due("plan()", 2).due("count(4)", 2);
        shape(upright, 0, 0, 0, 1, 2);
        shape(upright, 1, 1, 0, 2, 2);
        Sentence level = sentence("7: of several that with the least SAWN, level").with("wall(2, 3)", "limit(40)")
                .due("plan()", 2).due("count(4)", 2);
        shape(level, 0, 0, 0, 2, 1);
        shape(level, 1, 0, 1, 2, 2);
        sentence("7: SAWN is how long all CUTS are together").with("plan()").due("count(4)", 8)
                .with("wall(8, 1)", "limit(40)", "plan()").due("count(4)", 1)
                .with("wall(8, 8)", "limit(320)", "plan()").due("count(4)", 8)
                .with("limit(160)").due("plan()", 4).due("count(4)", 16);
    }

    private static void noCutAhead() {
        Sentence then = sentence("7: no CUT ahead of an upright one").with("wall(3, 1)", "limit(20)")
                .due("plan()", 2).due("count(4)", 1);
        shape(then, 0, 0, 0, 1, 1);
        shape(then, 1, 1, 0, 2, 1);
    }

    private static void uprightAheadOfLevel() {
        Sentence then = sentence("7: an upright CUT is ahead of a level one").with("wall(2, 2)", "limit(20)")
                .due("plan()", 2).due("count(4)", 2);
        shape(then, 0, 0, 0, 1, 2);
        shape(then, 1, 1, 0, 1, 2);
        // Of the wall a level cut alone can be; of the upper part both can.
        Sentence inner = sentence("7: of each PART, an upright CUT is ahead").with("wall(2, 3)", "limit(20)")
                .with("motifs(0, 0x88000000)").due("plan()", 3).due("count(4)", 4);
        shape(inner, 0, 0, 0, 2, 1);
        shape(inner, 1, 0, 1, 1, 2);
        shape(inner, 2, 1, 1, 1, 2);
    }

    private static void leastColumn() {
        Sentence then = sentence("7: of these the one of the least COLUMN").with("wall(4, 1)", "limit(30)").due("plan()", 2);
        shape(then, 0, 0, 0, 1, 1);
        shape(then, 1, 1, 0, 3, 1);
        Sentence left = sentence("7: the first with which a PLAN is left, upright").with("wall(5, 1)", "limit(30)").due("plan()", 2);
        shape(left, 0, 0, 0, 2, 1);
        shape(left, 1, 2, 0, 3, 1);
        Sentence three = sentence("7: the least COLUMN, of each PART").with("wall(5, 1)", "limit(20)").due("plan()", 3);
        shape(three, 0, 0, 0, 1, 1);
        shape(three, 1, 1, 0, 2, 1);
        shape(three, 2, 3, 0, 2, 1);
    }

    private static void leastRow() {
        Sentence then = sentence("7: of the least ROW").with("wall(1, 4)", "limit(30)").due("plan()", 2);
        shape(then, 0, 0, 0, 1, 1);
        shape(then, 1, 0, 1, 1, 3);
        Sentence left = sentence("7: the first with which a PLAN is left, level").with("wall(1, 5)", "limit(30)").due("plan()", 2);
        shape(left, 0, 0, 0, 1, 2);
        shape(left, 1, 0, 2, 1, 3);
        Sentence three = sentence("7: the least ROW, of each PART").with("wall(1, 5)", "limit(20)").due("plan()", 3);
        shape(three, 0, 0, 0, 1, 1);
        shape(three, 1, 0, 1, 1, 2);
        shape(three, 2, 0, 3, 1, 2);
    }

    private static void cutsAtTheEnds() {
        Sentence last = sentence("7: a CUT between the last two COLUMNS").with("wall(8, 1)", "limit(70)")
                .with("motifs(0, 0x11111110)").due("plan()", 2).due("count(4)", 1);
        shape(last, 0, 0, 0, 7, 1);
        shape(last, 1, 7, 0, 1, 1);
        Sentence first = sentence("7: a CUT between the first two COLUMNS").with("wall(8, 1)", "limit(70)")
                .with("motifs(0, 0x01111111)").due("plan()", 2).due("count(4)", 1);
        shape(first, 0, 0, 0, 1, 1);
        shape(first, 1, 1, 0, 7, 1);
    }

    private static void levelAtTheEnds() {
        Sentence last = sentence("7: a CUT between the last two ROWS").with("wall(1, 8)", "limit(70)");
        for (int row = 0; row < 7; row++) {
            last.with("cell(0, " + row + ", 10, 1)");
        }
        last.due("plan()", 2).due("count(4)", 1);
        shape(last, 0, 0, 0, 1, 7);
        shape(last, 1, 0, 7, 1, 1);
        Sentence first = sentence("7: a CUT between the first two ROWS").with("wall(1, 8)", "limit(70)");
        for (int row = 1; row < 8; row++) {
            first.with("cell(0, " + row + ", 10, 1)");
        }
        first.due("plan()", 2).due("count(4)", 1);
        shape(first, 0, 0, 0, 1, 1);
        shape(first, 1, 0, 1, 1, 7);
    }

    private static void numbersFromTheLeftAndBelow() {
        Sentence left = sentence("7: numbered from 0 on, all of the left one first").with("wall(2, 2)", "limit(10)").due("plan()", 4);
        shape(left, 0, 0, 0, 1, 1);
        shape(left, 1, 0, 1, 1, 1);
        shape(left, 2, 1, 0, 1, 1);
        shape(left, 3, 1, 1, 1, 1);
        Sentence lower = sentence("7: numbered from 0 on, all of the lower one first").with("wall(3, 2)", "limit(20)")
                .with("motifs(0, 0x11000000)", "motifs(1, 0x02200000)").due("plan()", 4).due("count(4)", 5);
        shape(lower, 0, 0, 0, 2, 1);
        shape(lower, 1, 2, 0, 1, 1);
        shape(lower, 2, 0, 1, 1, 1);
        shape(lower, 3, 1, 1, 2, 1);
    }

    private static void mostBlocks() {
        Sentence then = sentence("7: 64 BLOCKS are the most").with("wall(8, 8)", "limit(10)")
                .due("plan()", 64).due("count(2)", 64).due("count(4)", 112);
        for (int block = 0; block < 64; block++) {
            shape(then, block, block / 8, block % 8, 1, 1);
        }
        then.due("block(63, 4)", 10).due("block(64, 4)", NONE);
    }

    private static void planStandsAnew() {
        sentence("7: all BLOCKS stand, there are no PILES").with(States.BUSY).due("plan()", 5)
                .row("count(", 3, 3, 5, 0, 8, 0, 8, 89, 20, 3, 0)
                .due("block(4, 7)", 0).due("block(4, 8)", 1).due("block(4, 9)", NONE).due("block(4, 11)", NONE)
                .due("block(0, 8)", 0).due("piled(0, 0)", NONE).due("piled(1, 0)", NONE).due("ordered(0)", NONE)
                .due("take(4)", 0).due("block(4, 11)", 8);
        sentence("7: all BLOCKS stand, behind all TAKEN").with(States.ALL_TAKEN).due("plan()", 64)
                .row("count(", 8, 8, 64, 0, 112, 0, 64, 640, 10, 1, 0).due("block(63, 7)", 0).due("take(63)", 0);
        sentence("7: all BLOCKS stand, on the last DAY").with(States.LAST_DAY).due("plan()", 3)
                .row("count(", 3, 1, 3, 0, 2, 0, 5000, 30, 10, 1, 0);
        sentence("7: another PLAN by another LIMIT").with(States.BUSY).with("limit(3200)").due("plan()", 1)
                .row("count(", 3, 3, 1, 0, 0, 0, 8, 89, 3200, 3, 0).due("block(1, 0)", NONE).due("at(2, 2)", 0);
    }

    private static void noPlan() {
        sentence("7: NONE, at hand is what was").with(States.BUSY).with("limit(19)").refused("plan()")
                .row("count(", 3, 3, 5, 3, 8, 2, 8, 89, 19, 3, 5).due("take(3)", 0);
        sentence("7: NONE, at hand is what was, all TAKEN").with(States.ALL_TAKEN).with("limit(9)").refused("plan()")
                .row("count(", 8, 8, 64, 64, 112, 8, 64, 640, 9, 1, 64);
        sentence("7: NONE, at hand is what was, on the last DAY").with(States.LAST_DAY).with("limit(1)").refused("plan()");
    }

    private static void noPlanAtHandBefore() {
        sentence("7: NONE, and none was at hand").with("limit(9)").refused("plan()").due("count(2)", 0)
                .due("order()", NONE).with("limit(10)").due("plan()", 16);
        sentence("7: NONE, and the one that was is no more").with(States.BUSY).with("cell(0, 0, 50, 0)").refused("plan()")
                .due("count(2)", 0).due("count(10)", 0).due("count(5)", 0);
    }

    // Promise 8

    private static void blocksOfAPlan() {
        sentence("8: what 0 .. 11 of each BLOCK").with(States.BUSY)
                .row("block(0, ", 0, 0, 2, 1, 20, 30, 0, 0, 1, NONE, 397, NONE, NONE)
                .row("block(1, ", 0, 1, 1, 2, 20, 120, 2, 1, 0, 0, 197, 1, NONE)
                .row("block(2, ", 1, 1, 1, 2, 20, 120, 3, 1, 0, 1, 194, 7, NONE)
                .row("block(3, ", 2, 0, 1, 1, 10, 30, 1, 0, 1, NONE, 197, NONE, NONE)
                .row("block(4, ", 2, 1, 1, 2, 19, 120, 4, 1, 0, 0, 197, 0, NONE);
        sentence("8: what 0 .. 11 of the last of 64, as it stands").with(States.LARGEST)
                .row("block(63, ", 7, 7, 1, 1, 10, NONE, 63, 0, 1, NONE, 199, NONE, NONE)
                .row("block(0, ", 0, 0, 1, 1, 10, NONE, 0, 0, 0, NONE, 199, NONE, NONE);
        sentence("8: what 0 .. 11 of the last of 64, TAKEN").with(States.ALL_TAKEN)
                .row("block(63, ", 7, 7, 1, 1, 10, NONE, 63, 1, 0, 7, 199, 7, NONE)
                .row("block(0, ", 0, 0, 1, 1, 10, NONE, 0, 1, 0, 0, 199, 56, NONE);
        sentence("8: asking changes nothing").with(States.BUSY).unchanged("block(0, 8)", 1).unchanged("block(4, 11)", 0);
    }

    private static void noSuchBlocks() {
        for (int what = 0; what <= 11; what++) {
            String then = ", " + what + ")";
            sentence("8: NONE, there is none such").with(States.BUSY).due("block(-1" + then, NONE)
                    .due("block(5" + then, NONE).due("block(64" + then, NONE).due("block(MIN" + then, NONE)
                    .due("block(MAX" + then, NONE);
            sentence("8: NONE, there is none such, of 64").with(States.LARGEST).due("block(-1" + then, NONE)
                    .due("block(64" + then, NONE).due("block(65" + then, NONE).due("block(MAX" + then, NONE);
            sentence("8: NONE, without a PLAN").due("block(0" + then, NONE);
            sentence("8: NONE, without a PLAN any more").with(States.LARGEST).with("cell(0, 0, 10, 0)")
                    .due("block(0" + then, NONE).due("block(63" + then, NONE);
        }
        sentence("8: NONE changes nothing").with(States.BUSY).refused("block(-1, 0)", "block(5, 0)", "block(MAX, 4)");
    }

    private static void noSuchWhat() {
        for (int block = 0; block < 5; block++) {
            String own = "block(" + block + ", ";
            sentence("8: NONE for another what").with(States.BUSY).due(own + "-1)", NONE).due(own + "12)", NONE)
                    .due(own + "13)", NONE).due(own + "MIN)", NONE).due(own + "MAX)", NONE);
        }
        sentence("8: NONE for another what, changes nothing").with(States.BUSY)
                .refused("block(0, -1)", "block(0, 12)", "block(5, 12)", "block(0, MIN)", "block(4, MAX)");
    }

    // Promise 9

    private static void cellsOfBlocks() {
        sentence("9: the BLOCK that has a CELL").with(States.BUSY)
                .due("at(0, 0)", 0).due("at(1, 0)", 0).due("at(2, 0)", 3).due("at(0, 1)", 1).due("at(0, 2)", 1)
                .due("at(1, 1)", 2).due("at(1, 2)", 2).due("at(2, 1)", 4).due("at(2, 2)", 4);
        Sentence all = sentence("9: each CELL of 64").with(States.LARGEST);
        for (int block = 0; block < 64; block++) {
            all.due("at(" + block / 8 + ", " + block % 8 + ")", block);
        }
        sentence("9: a TAKEN one has its CELLS").with(States.ALL_TAKEN).due("at(0, 0)", 0).due("at(7, 7)", 63);
        sentence("9: asking changes nothing").with(States.BUSY).unchanged("at(2, 2)", 4).unchanged("at(0, 0)", 0);
    }

    private static void noSuchCells() {
        String[] wrong = {
            "at(-1, 0)", "at(0, -1)", "at(3, 0)", "at(0, 3)", "at(3, 3)", "at(-1, 1)", "at(8, 0)", "at(0, 8)", "at(MIN, 0)",
            "at(0, MIN)", "at(MAX, 0)", "at(0, MAX)", "at(MIN, MIN)", "at(MAX, MAX)",
        };
        sentence("9: NONE, there is none such").with(States.BUSY).refused(wrong);
        sentence("9: NONE, there is none such, of the largest").with(States.LARGEST)
                .refused("at(8, 0)", "at(0, 8)", "at(8, 8)", "at(-1, 1)", "at(-1, 7)", "at(7, -1)");
        sentence("9: NONE, without a PLAN").refused("at(0, 0)", "at(3, 3)", "at(4, 0)");
        sentence("9: NONE, without a PLAN any more").with(States.LARGEST).with("motifs(0, 0)")
                .due("at(0, 0)", NONE).due("at(7, 7)", NONE);
        sentence("9: NONE, of a larger WALL that was").with(States.LARGEST).with("wall(2, 2)", "plan()")
                .due("at(1, 1)", 3).due("at(2, 1)", NONE).due("at(1, 2)", NONE).due("at(7, 7)", NONE);
    }

    // Promise 10

    private static void aboveByOneCell() {
        // Below: 0 has columns 0 and 1, 1 has column 2; over them: 2 has column 0, 3 has columns 1 and 2.
        sentence("10: a CELL right above one of its CELLS").with("wall(3, 2)", "limit(20)")
                .with("motifs(0, 0x11000000)", "motifs(1, 0x02200000)").due("plan()", 4)
                .due("above(2, 0)", true).due("above(3, 0)", true).due("above(3, 1)", true).due("above(2, 1)", false)
                .due("take(3)", 0).due("above(3, 0)", true).due("above(3, 1)", true);
        sentence("10: a wide one over narrow ones").with("wall(3, 2)", "limit(30)", "motifs(1, 0x11100000)")
                .with("cell(0, 0, 30, 0)", "cell(1, 0, 30, 0)", "cell(2, 0, 30, 0)").due("plan()", 4)
                .due("above(3, 0)", true).due("above(3, 1)", true).due("above(3, 2)", true);
        sentence("10: narrow ones over a wide one").with("wall(3, 2)", "limit(30)", "motifs(0, 0x11100000)")
                .with("cell(0, 1, 30, 0)", "cell(1, 1, 30, 0)", "cell(2, 1, 30, 0)").due("plan()", 4)
                .due("above(1, 0)", true).due("above(2, 0)", true).due("above(3, 0)", true);
    }

    private static void aboveNeitherSideNorFar() {
        sentence("10: not beneath, beside, by a corner, nor a BLOCK itself").with("wall(2, 2)", "limit(10)", "plan()")
                .due("above(1, 0)", true).due("above(0, 1)", false).due("above(2, 0)", false).due("above(0, 2)", false)
                .due("above(3, 0)", false).due("above(1, 2)", false).due("above(0, 0)", false).due("above(3, 3)", false);
        sentence("10: not two ROWS up").with("wall(1, 3)", "limit(10)", "plan()")
                .due("above(1, 0)", true).due("above(2, 1)", true).due("above(2, 0)", false);
        sentence("10: not a BLOCK of two ROWS itself").with("plan()").due("block(0, 3)", 2).due("above(0, 0)", false)
                .due("above(1, 0)", true).due("above(3, 0)", false).due("above(2, 0)", false);
        sentence("10: the lowest and the uppermost of eight ROWS").with(States.LARGEST)
                .due("above(1, 0)", true).due("above(7, 6)", true).due("above(63, 62)", true).due("above(8, 7)", false)
                .due("above(7, 0)", false).due("above(0, 7)", false).due("above(62, 63)", false);
        sentence("10: asking changes nothing").with(States.BUSY).unchanged("above(1, 0)", true).unchanged("above(0, 1)", false);
    }

    private static void aboveNoSuchBlocks() {
        String[] wrong = {
            "above(-1, 0)", "above(1, -1)", "above(5, 0)", "above(1, 5)", "above(5, 5)", "above(64, 0)", "above(1, 64)",
            "above(MIN, 0)", "above(1, MIN)", "above(MAX, 0)", "above(1, MAX)", "above(MAX, MIN)",
        };
        sentence("10: false, there is none such").with(States.BUSY).refused(wrong);
        sentence("10: false, there is none such, of 64").with(States.LARGEST)
                .refused("above(64, 63)", "above(63, 64)", "above(0, -1)", "above(-1, 0)");
        sentence("10: false, without a PLAN").refused("above(1, 0)", "above(0, 0)");
        sentence("10: false, without a PLAN any more").with(States.LARGEST).with("wall(8, 8)").due("above(1, 0)", false);
    }

    // Terms 2 and 3, of BLOCKS

    private static void free() {
        sentence("8: FREE if all ABOVE it are TAKEN").with("wall(3, 2)", "limit(20)")
                .with("motifs(0, 0x11000000)", "motifs(1, 0x02200000)", "plan()")
                .due("block(0, 8)", 0).due("block(1, 8)", 0).due("block(2, 8)", 1).due("block(3, 8)", 1)
                .due("take(2)", 0).due("block(0, 8)", 0).due("block(1, 8)", 0).due("block(2, 8)", 0)
                .due("take(3)", 1).due("block(0, 8)", 1).due("block(1, 8)", 1).due("block(3, 8)", 0)
                .due("take(0)", 0).due("block(0, 8)", 0).due("take(1)", 1).due("block(1, 8)", 0);
        sentence("8: FREE, the last one ABOVE stands").with("wall(3, 2)", "limit(30)", "motifs(0, 0x11100000)")
                .with("cell(0, 1, 30, 0)", "cell(1, 1, 30, 0)", "cell(2, 1, 30, 0)", "plan()")
                .with("take(1)", "take(2)").due("block(0, 8)", 0).with("take(3)").due("block(0, 8)", 1);
        sentence("8: FREE, the first one ABOVE stands").with("wall(3, 2)", "limit(30)", "motifs(0, 0x11100000)")
                .with("cell(0, 1, 30, 0)", "cell(1, 1, 30, 0)", "cell(2, 1, 30, 0)", "plan()")
                .with("take(3)", "take(2)").due("block(0, 8)", 0).with("take(1)").due("block(0, 8)", 1);
        sentence("8: FREE, one BLOCK alone").with("limit(160)", "plan()").due("block(0, 8)", 1);
    }

    private static void turns() {
        sentence("8: TURN by the lowest ROW, then the first COLUMN").with("wall(2, 2)", "limit(10)", "plan()")
                .due("block(0, 6)", 0).due("block(1, 6)", 2).due("block(2, 6)", 1).due("block(3, 6)", 3);
        Sentence all = sentence("8: TURNS of 64, from 0 on").with(States.LARGEST);
        for (int block = 0; block < 64; block++) {
            all.due("block(" + block + ", 6)", block % 8 * 8 + block / 8);
        }
        // Of the right column one block of three rows: its lowest row is all that counts.
        sentence("8: TURN by the lowest ROW alone").with("wall(2, 3)", "limit(10)")
                .with("cell(1, 0, 4, 1)", "cell(1, 1, 3, 1)", "cell(1, 2, 3, 1)").due("plan()", 4)
                .due("block(3, 3)", 3).due("block(0, 6)", 0).due("block(3, 6)", 1).due("block(1, 6)", 2).due("block(2, 6)", 3);
        sentence("8: TURN of one alone").with("limit(160)", "plan()").due("block(0, 6)", 0);
    }

    private static void wide() {
        sentence("8: WIDE, both sides are ends of the WALL").with("wall(8, 8)", "limit(640)", "saw(9)", "plan()")
                .due("block(0, 10)", 1600);
        sentence("8: WIDE, both sides are ends of the WALL of one COLUMN").with("wall(1, 2)", "limit(10)", "saw(9)", "plan()")
                .due("block(0, 10)", 200).due("block(1, 10)", 200);
        sentence("8: WIDE, a level CUT takes none").with("wall(2, 2)", "limit(20)", "motifs(0, 0x11000000)", "saw(9)", "plan()")
                .due("block(0, 10)", 400).due("block(1, 10)", 400);
        for (int saw = 1; saw <= 9; saw++) {
            sentence("8: WIDE, less SAW for each side").with("wall(8, 1)", "limit(10)", "saw(" + saw + ")", "plan()")
                    .due("block(0, 10)", 200 - saw).due("block(1, 10)", 200 - 2 * saw)
                    .due("block(6, 10)", 200 - 2 * saw).due("block(7, 10)", 200 - saw);
        }
        sentence("8: WIDE, of more COLUMNS").with("wall(4, 1)", "limit(20)", "motifs(0, 0x01100000)", "saw(9)").due("plan()", 3)
                .due("block(0, 10)", 191).due("block(1, 10)", 382).due("block(2, 10)", 191);
    }
}
