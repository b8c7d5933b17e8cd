/** Promises 11 to 15, and what 'Terms' 2 says of DAYS, THE RIVER and THE ORDER: each sentence at its edges. */
public final class RiverEdgesTest {
    private static final Check CHECK = new Check();
    private static final int NONE = TempleRaised.NONE;

    public static void main(String[] args) {
        monthsAndHeights();
        noSuchMonth();
        anotherHeight();
        riverLeavesTheRest();
        monthsOfThirtyDays();
        rowsBelowTheHeight();
        firstDayUnderWater();
        lowestRowIsDue();
        numbersOfDays();
        anotherNumberOfDays();
        daysUpToTheLast();
        takeTheFree();
        takeNoneSuch();
        takeNotFree();
        takeWithoutAPlan();
        takeAtTheWater();
        takeAtTheMonthsEnds();
        takeBehindTheLastMonth();
        takeOnTheLastDay();
        orderWithoutAPlan();
        orderOfNone();
        inTime();
        inTimeOfMany();
        orderLeavesTheRest();
        orderByPress();
        orderByTheLeastPressBelow();
        orderOfThoseThatStand();
        placesOfTheOrder();
        noSuchPlaces();
        orderStays();
        orderEnds();
        CHECK.end();
    }

    private static Sentence sentence(String sentence) {
        return new Sentence(CHECK, sentence);
    }

    /** One BLOCK of one CELL in each ROW. */
    private static Sentence column(String sentence, int rows) {
        return sentence(sentence).with("wall(1, " + rows + ")", "limit(10)").due("plan()", rows);
    }

    /** One BLOCK of one CELL in each COLUMN. */
    private static Sentence row(String sentence, int columns) {
        return sentence(sentence).with("wall(" + columns + ", 1)", "limit(10)").due("plan()", columns);
    }

    /** To a DAY, 0 at first. */
    private static Sentence on(int day, Sentence then) {
        then.times(day / 100, "days(100)");
        return day % 100 == 0 ? then : then.with("days(" + day % 100 + ")");
    }

    // Promise 11

    private static void monthsAndHeights() {
        for (int month = 0; month <= 11; month++) {
            row("11: MONTHS 0 .. 11", 1).due("river(" + month + ", 1)", true).due("block(0, 5)", 30 * month);
        }
        for (int height = 0; height <= 9; height++) {
            column("11: HEIGHT 0 .. 9", 8).due("river(0, " + height + ")", true)
                    .due("block(0, 5)", height > 0 ? 0 : NONE).due("block(7, 5)", height > 7 ? 0 : NONE);
        }
        column("11: a MONTH's HEIGHT in the place of the one that was", 8).due("river(0, 9)", true).due("block(0, 5)", 0)
                .due("river(0, 0)", true).due("block(0, 5)", NONE);
    }

    private static void noSuchMonth() {
        String[] wrong = {
            "river(-1, 5)", "river(12, 5)", "river(MIN, 5)", "river(MAX, 5)", "river(13, 0)", "river(-1, 0)", "river(30, 1)",
        };
        sentence("11: false, there is no such MONTH").with(States.BUSY).refused(wrong);
        sentence("11: false, there is no such MONTH, of a new object").refused("river(-1, 1)", "river(12, 1)");
        sentence("11: false, there is no such MONTH, all TAKEN").with(States.ALL_TAKEN).refused("river(-1, 1)", "river(12, 1)");
        sentence("11: false, there is no such MONTH, on the last DAY").with(States.LAST_DAY).refused("river(-1, 1)", "river(12, 1)");
    }

    private static void anotherHeight() {
        String[] wrong = {
            "river(0, -1)", "river(0, 10)", "river(11, -1)", "river(11, 10)", "river(4, MIN)", "river(4, MAX)",
            "river(12, 10)", "river(-1, -1)",
        };
        sentence("11: false, another HEIGHT").with(States.BUSY).refused(wrong);
        sentence("11: false, another HEIGHT, of a new object").refused("river(0, -1)", "river(0, 10)");
        sentence("11: false, another HEIGHT, on the last DAY").with(States.LAST_DAY).refused("river(11, -1)", "river(11, 10)");
    }

    private static void riverLeavesTheRest() {
        sentence("11: a MONTH's HEIGHT alone").with(States.BUSY).due("river(11, 9)", true)
                .row("count(", 3, 3, 5, 3, 8, 2, 8, 89, 20, 3, 5).row("ordered(", 1, 2, 4, 0, 3, NONE)
                .row("piled(0, ", 4, 1, NONE).due("block(0, 5)", 30).due("block(1, 5)", 120);
        column("11: other MONTHS stay", 3).with("river(4, 1)", "river(6, 1)", "river(5, 3)")
                .due("block(0, 5)", 120).due("block(1, 5)", 150).due("block(2, 5)", 150)
                .with("river(5, 0)", "river(4, 0)").due("block(0, 5)", 180).due("block(1, 5)", NONE);
    }

    // Terms 2: days, months, rows under water, due

    private static void monthsOfThirtyDays() {
        for (int month = 1; month <= 11; month++) {
            on(30 * month - 1, row("13: a MONTH is 30 DAYS, the DAY before it", 2).with("river(" + month + ", 1)"))
                    .due("take(0)", 0).due("count(6)", 30 * month).due("take(1)", NONE);
            on(30 * month - 1, row("13: a MONTH is 30 DAYS, its first DAY", 2).with("river(" + (month - 1) + ", 1)"))
                    .due("take(0)", NONE).with("days(1)").due("take(0)", 0);
        }
    }

    private static void rowsBelowTheHeight() {
        for (int height = 0; height <= 9; height++) {
            Sentence then = column("11: ROWS below the HEIGHT are under water", 8).with("river(2, " + height + ")");
            for (int row = 0; row < 8; row++) {
                then.due("block(" + row + ", 5)", row < height ? 60 : NONE);
            }
        }
    }

    private static void firstDayUnderWater() {
        row("8: DUE is the first DAY", 1).with("river(5, 1)").due("block(0, 5)", 150)
                .with("river(3, 9)").due("block(0, 5)", 90).with("river(4, 0)").due("block(0, 5)", 90)
                .with("river(0, 1)").due("block(0, 5)", 0).with("river(0, 0)").due("block(0, 5)", 90);
        on(200, row("8: DUE is the first DAY of all, past ones too", 1).with("river(3, 1)", "river(11, 1)"))
                .due("block(0, 5)", 90);
        on(5000, row("8: DUE as the last DAY comes", 1).with("river(11, 1)")).due("block(0, 5)", 330);
        on(5000, row("8: DUE is NONE, there is none such", 1)).due("block(0, 5)", NONE);
    }

    private static void lowestRowIsDue() {
        sentence("8: DUE by the lowest ROW").with("wall(1, 3)", "limit(20)").due("plan()", 2).due("block(1, 3)", 2)
                .with("river(2, 1)").due("block(0, 5)", 60).due("block(1, 5)", NONE)
                .with("river(2, 2)").due("block(1, 5)", 60).with("river(1, 3)").due("block(1, 5)", 30);
        sentence("8: DUE by the lowest of eight ROWS").with("wall(1, 8)", "limit(80)", "plan()", "river(7, 1)")
                .due("block(0, 5)", 210);
        row("8: DUE of a TAKEN one", 1).with("take(0)", "river(7, 1)").due("block(0, 5)", 210);
    }

    // Promise 12

    private static void numbersOfDays() {
        sentence("12: 1 .. 100").due("days(1)", 1).due("count(6)", 1).due("days(100)", 101).due("count(6)", 101)
                .due("days(2)", 103).due("days(99)", 202);
        sentence("12: nothing is TAKEN").with(States.BUSY).due("days(100)", 108)
                .row("count(", 3, 3, 5, 3, 8, 2, 108, 89, 20, 3, 5).row("ordered(", 1, 2, 4, 0, 3, NONE)
                .due("block(0, 7)", 0).due("block(4, 11)", 0).due("block(2, 11)", 7);
    }

    private static void anotherNumberOfDays() {
        String[] wrong = {"days(0)", "days(-1)", "days(101)", "days(-100)", "days(MIN)", "days(MAX)"};
        sentence("12: NONE for another number").with(States.BUSY).refused(wrong);
        sentence("12: NONE for another number, of a new object").refused(wrong);
        sentence("12: NONE for another number, all TAKEN").with(States.ALL_TAKEN).refused("days(0)", "days(101)");
        sentence("12: NONE for another number, on the last DAY").with(States.LAST_DAY).refused(wrong);
    }

    private static void daysUpToTheLast() {
        on(4900, sentence("12: up to 5000, by 100")).due("days(100)", 5000).refused("days(1)", "days(100)");
        on(4901, sentence("12: not above 5000, by 100")).refused("days(100)").due("days(99)", 5000);
        on(4999, sentence("12: not above 5000, by 2")).refused("days(2)", "days(100)").due("days(1)", 5000)
                .refused("days(1)", "days(2)", "days(100)", "days(0)", "days(MAX)").due("count(6)", 5000);
        on(4950, sentence("12: not above 5000, by 51")).refused("days(51)").due("days(50)", 5000);
    }

    // Promise 13

    private static void takeTheFree() {
        row("13: TAKEN today, and the DAY goes by", 2).due("take(1)", 0).due("block(1, 7)", 1).due("block(1, 11)", 0)
                .due("block(1, 9)", 0).due("count(6)", 1).due("count(3)", 1).due("count(5)", 1)
                .due("take(0)", 0).due("block(0, 11)", 1).due("count(6)", 2).due("count(3)", 2);
        Sentence all = sentence("13: all 64 are TAKEN, one each DAY").with(States.ALL_TAKEN);
        all.row("count(", 8, 8, 64, 64, 112, 8, 64, 640, 10, 1, 64);
        for (int block = 0; block < 64; block++) {
            all.due("block(" + block + ", 11)", (7 - block % 8) * 8 + block / 8);
        }
    }

    private static void takeNoneSuch() {
        String[] wrong = {"take(-1)", "take(5)", "take(64)", "take(MIN)", "take(MAX)"};
        sentence("13: NONE, there is none such").with(States.BUSY).refused(wrong);
        sentence("13: NONE, there is none such, of 64").with(States.LARGEST).refused("take(64)", "take(-1)");
    }

    private static void takeNotFree() {
        sentence("13: NONE, it is TAKEN").with(States.BUSY).refused("take(4)", "take(1)", "take(2)");
        sentence("13: NONE, all are TAKEN").with(States.ALL_TAKEN).refused("take(0)", "take(63)", "take(7)", "take(64)");
        column("13: NONE, one is ABOVE", 3).refused("take(0)", "take(1)").due("take(2)", 0)
                .refused("take(0)", "take(2)").due("take(1)", 0).due("take(0)", 0).refused("take(0)");
        sentence("13: NONE, one of two ABOVE stands").with("wall(2, 2)", "limit(20)", "motifs(0, 0x11000000)")
                .with("cell(0, 1, 20, 0)", "cell(1, 1, 20, 0)", "plan()")
                .with("take(1)").refused("take(0)").with("take(2)").due("take(0)", 0);
    }

    private static void takeWithoutAPlan() {
        sentence("13: NONE, without a PLAN").refused("take(0)", "take(-1)", "take(MAX)");
        sentence("13: NONE, without a PLAN any more").with(States.LARGEST).with("cell(0, 0, 10, 0)").refused("take(7)", "take(0)");
    }

    private static void takeAtTheWater() {
        for (int height = 1; height <= 8; height++) {
            Sentence wet = column("13: NONE, its lowest ROW is under water", height).with("river(0, " + height + ")")
                    .due("take(" + (height - 1) + ")", NONE).due("count(6)", 0).due("count(3)", 0);
            wet.with("river(0, " + (height - 1) + ")").due("take(" + (height - 1) + ")", 0);
        }
        column("13: NONE, all is under water", 8).with("river(0, 9)").refused("take(7)")
                .with("river(0, 8)").refused("take(7)").with("river(0, 7)").due("take(7)", 0);
        sentence("13: the lowest ROW of many").with("wall(1, 3)", "limit(20)", "plan()", "river(0, 2)").refused("take(1)")
                .with("river(0, 1)").due("take(1)", 0).refused("take(0)").with("river(0, 0)").due("take(0)", 0);
    }

    private static void takeAtTheMonthsEnds() {
        on(29, row("13: under water today, not tomorrow", 3).with("river(0, 1)")).refused("take(0)")
                .with("days(1)").due("take(0)", 0);
        on(29, row("13: under water tomorrow, not today", 3).with("river(1, 1)")).due("take(0)", 0).refused("take(1)");
        on(59, row("13: under water no more", 3).with("river(1, 1)")).refused("take(0)").with("days(1)").due("take(0)", 0);
        row("13: under water in another MONTH alone", 2).with("river(1, 9)", "river(11, 9)").due("take(0)", 0);
    }

    private static void takeBehindTheLastMonth() {
        on(329, row("13: MONTH 11 begins with DAY 330", 8).with("river(11, 1)")).due("take(0)", 0).refused("take(1)");
        on(359, row("13: the last DAY of MONTH 11", 8).with("river(11, 1)")).refused("take(1)")
                .with("days(1)").refused("take(1)").with("days(30)").refused("take(1)");
        on(4999, row("13: from MONTH 12 on as in 11, to the last DAY", 8).with("river(11, 1)")).refused("take(1)")
                .with("river(11, 0)").due("take(1)", 0);
        Sentence dry = row("13: from MONTH 12 on as in 11, not as in 0 .. 10", 8);
        for (int month = 0; month <= 10; month++) {
            dry.with("river(" + month + ", 9)");
        }
        on(329, dry).refused("take(0)").with("days(1)").due("take(0)", 0).with("days(29)").due("count(6)", 360)
                .due("take(1)", 1).with("days(29)").due("take(2)", 2).times(3, "days(100)").due("take(3)", 3);
    }

    private static void takeOnTheLastDay() {
        sentence("13: NONE, the DAY is 5000").with(States.LAST_DAY).refused("take(0)", "take(1)", "take(2)", "take(3)");
        on(4999, row("13: on DAY 4999", 2)).due("take(0)", 0).due("count(6)", 5000).due("block(0, 11)", 4999)
                .due("block(1, 8)", 1).refused("take(1)");
        on(5000, row("13: NONE, the DAY is 5000, by days()", 2)).refused("take(0)", "take(1)");
    }

    // Promise 14

    private static void orderWithoutAPlan() {
        sentence("14: NONE, no PLAN at hand").refused("order()").due("count(10)", 0);
        sentence("14: NONE, no PLAN at hand any more").with(States.BUSY).with("wall(3, 3)").refused("order()");
        sentence("14: NONE, none could be found").with("limit(9)").due("plan()", NONE).refused("order()");
    }

    private static void orderOfNone() {
        sentence("14: all are TAKEN").with(States.ALL_TAKEN).due("count(10)", 64).due("order()", 0)
                .due("count(10)", 0).due("ordered(0)", NONE).due("count(3)", 64);
        row("14: all are TAKEN, and were late", 1).with("take(0)", "river(0, 9)").due("order()", 0).due("count(10)", 0);
    }

    private static void inTime() {
        on(29, row("14: in time on an earlier DAY", 1).with("river(1, 1)")).due("order()", 0)
                .with("days(1)").due("order()", 1).with("days(1)").due("order()", 1);
        row("14: not in time on DAY 0", 1).with("river(0, 1)").due("order()", 1);
        on(329, row("14: in time ahead of the last MONTH", 1).with("river(11, 1)")).due("order()", 0)
                .with("days(1)").due("order()", 1).with("days(30)").due("order()", 1);
        sentence("14: on the last DAY, none is DUE").with(States.LAST_DAY).due("order()", 0).row("ordered(", 0, 1, NONE);
        sentence("14: on the last DAY, all are DUE").with(States.LAST_DAY).with("river(11, 1)").due("order()", 2)
                .row("ordered(", 0, 1, NONE);
    }

    private static void inTimeOfMany() {
        on(27, row("14: one each DAY from today on", 2).with("river(1, 1)")).due("order()", 0)
                .with("days(1)").due("order()", 0).with("days(1)").due("order()", 1).with("days(1)").due("order()", 2);
        sentence("14: 64, all DUE on DAY 30").with(States.LARGEST).with("river(1, 9)").due("order()", 34);
        sentence("14: 64, all DUE on DAY 0").with(States.LARGEST).with("river(0, 8)").due("order()", 64);
        sentence("14: 64, all DUE on DAY 330").with(States.LARGEST).with("river(11, 9)").due("order()", 0);
        // Row by row from above: the lowest row has the days 56 .. 63.
        sentence("14: 64, the lowest ROW is DUE on DAY 60").with(States.LARGEST).with("river(2, 1)").due("order()", 4)
                .with("river(1, 1)").due("order()", 8).with("river(1, 2)").due("order()", 16);
        sentence("14: 64, the uppermost ROW is not DUE").with(States.LARGEST).with("river(0, 7)").due("order()", 56);
    }

    private static void orderLeavesTheRest() {
        sentence("14: THE ORDER takes none, and no DAY goes by").with(States.BUSY).due("order()", 0)
                .row("count(", 3, 3, 5, 3, 8, 2, 8, 89, 20, 3, 2).row("ordered(", 0, 3, NONE)
                .due("block(0, 7)", 0).due("block(0, 8)", 1).unchanged("order()", 0);
    }

    private static void orderByPress() {
        // All presses are 100000, less 1 for each row that is below.
        sentence("14: the least PRESS, of several the least number").with(States.LARGEST)
                .row("ordered(", 7, 15, 23, 31, 39, 47, 55, 63, 6, 14, 22, 30, 38, 46, 54, 62, 5).due("ordered(63)", 56);
        row("14: of several the least number", 8).due("order()", 0).row("ordered(", 0, 1, 2, 3, 4, 5, 6, 7, NONE);
        // The left column is one block of three rows, the right one three blocks: 3 is above 2, 2 above 1.
        sentence("14: PRESS less 1 goes ahead of the number").with("wall(2, 3)", "limit(10)")
                .with("cell(0, 0, 4, 1)", "cell(0, 1, 3, 1)", "cell(0, 2, 3, 1)").due("plan()", 4)
                .due("order()", 0).row("ordered(", 3, 2, 0, 1, NONE)
                .with("river(0, 1)").due("order()", 2).row("ordered(", 3, 2, 0, 1, NONE)
                .with("river(0, 9)").due("order()", 4).row("ordered(", 3, 2, 0, 1, NONE);
        // The left column: 0 of two rows, 1 over it; the right one: 2, 3 and 4, each of one row.
        sentence("14: PRESS of what is below, of one that is not DUE itself").with("wall(2, 3)", "limit(20)")
                .with("cell(0, 0, 10, 1)", "cell(0, 1, 10, 1)", "cell(0, 2, 20, 0)")
                .with("cell(1, 0, 20, 0)", "cell(1, 1, 20, 0)", "cell(1, 2, 20, 0)").due("plan()", 5)
                .with("river(1, 2)").due("block(1, 5)", NONE).due("block(3, 5)", 30).due("block(4, 5)", NONE)
                .due("order()", 0).row("ordered(", 4, 1, 3, 0, 2, NONE)
                .with("river(1, 1)").due("order()", 0).row("ordered(", 4, 1, 3, 0, 2, NONE)
                .with("river(1, 0)").due("order()", 0).row("ordered(", 4, 1, 3, 0, 2, NONE);
        column("14: each FREE as its turn comes", 8).due("order()", 0).row("ordered(", 7, 6, 5, 4, 3, 2, 1, 0, NONE);
    }

    private static void orderByTheLeastPressBelow() {
        String[] both = {"wall(3, 3)", "limit(20)", "cell(0, 0, 10, 3)", "cell(0, 1, 10, 3)", "cell(0, 2, 20, 0)"};
        // Column 0: 0 of two rows, 1 over it. Then 5, over two columns: one of two blocks, one of one.
        sentence("14: PRESS of each BLOCK that it is ABOVE of, the left one has less").with(both)
                .with("cell(1, 0, 20, 0)", "cell(1, 1, 20, 0)", "cell(2, 0, 10, 2)", "cell(2, 1, 10, 2)")
                .with("cell(1, 2, 10, 1)", "cell(2, 2, 10, 1)").due("plan()", 6)
                .due("above(5, 3)", true).due("above(5, 4)", true).due("block(4, 3)", 2)
                .due("order()", 0).row("ordered(", 5, 1, 3, 0, 2, 4, NONE);
        sentence("14: PRESS of each BLOCK that it is ABOVE of, the right one has less").with(both)
                .with("cell(2, 0, 20, 0)", "cell(2, 1, 20, 0)", "cell(1, 0, 10, 2)", "cell(1, 1, 10, 2)")
                .with("cell(1, 2, 10, 1)", "cell(2, 2, 10, 1)").due("plan()", 6)
                .due("above(5, 2)", true).due("above(5, 4)", true).due("block(2, 3)", 2)
                .due("order()", 0).row("ordered(", 5, 1, 4, 0, 2, 3, NONE);
    }

    private static void orderOfThoseThatStand() {
        column("14: of all BLOCKS that stand", 3).with("take(2)").due("order()", 0).row("ordered(", 1, 0, NONE)
                .due("count(10)", 2).with("take(1)").due("order()", 0).row("ordered(", 0, NONE).due("count(10)", 1);
        row("14: of all BLOCKS that stand, the first is TAKEN", 3).with("take(0)").due("order()", 0).row("ordered(", 1, 2, NONE);
        row("14: of all BLOCKS that stand, the last is TAKEN", 3).with("take(2)").due("order()", 0).row("ordered(", 0, 1, NONE);
    }

    // Promise 15

    private static void placesOfTheOrder() {
        Sentence all = sentence("15: each place of 64").with(States.LARGEST).due("count(10)", 64);
        for (int k = 0; k < 64; k++) {
            all.due("ordered(" + k + ")", k % 8 * 8 + 7 - k / 8);
        }
        all.due("ordered(64)", NONE).due("ordered(65)", NONE).due("ordered(-1)", NONE);
        sentence("15: asking changes nothing").with(States.BUSY).unchanged("ordered(0)", 1).unchanged("ordered(4)", 3);
    }

    private static void noSuchPlaces() {
        sentence("15: NONE, there is none such").with(States.BUSY)
                .refused("ordered(-1)", "ordered(5)", "ordered(6)", "ordered(63)", "ordered(64)", "ordered(MIN)", "ordered(MAX)");
        sentence("15: NONE, not asked yet").with("plan()").refused("ordered(0)", "ordered(-1)", "ordered(3)");
        sentence("15: NONE, of a new object").refused("ordered(0)", "ordered(MIN)", "ordered(MAX)");
        sentence("15: NONE, not of a longer one that was asked before").with(States.BUSY).with("order()")
                .row("ordered(", 0, 3, NONE, NONE, NONE, NONE);
    }

    private static void orderStays() {
        sentence("15: asked last, whatever is TAKEN or goes by").with(States.BUSY).row("ordered(", 1, 2, 4, 0, 3, NONE)
                .with("days(100)", "river(0, 9)", "limit(1)", "saw(9)").row("ordered(", 1, 2, 4, 0, 3, NONE)
                .due("plan()", NONE).row("ordered(", 1, 2, 4, 0, 3, NONE).due("count(10)", 5);
        sentence("15: asked last, all are TAKEN since").with(States.ALL_TAKEN).due("count(10)", 64)
                .due("ordered(0)", 7).due("ordered(63)", 56);
        sentence("15: refused calls do not end it").with(States.BUSY)
                .due("wall(0, 0)", false).due("cell(3, 3, 10, 0)", false).due("motifs(3, 0)", false).due("again(2)", false)
                .row("ordered(", 1, 2, 4, 0, 3, NONE);
    }

    private static void orderEnds() {
        sentence("15: none behind another PLAN").with(States.BUSY).with("limit(90)").due("plan()", 1)
                .due("ordered(0)", NONE).due("count(10)", 0);
        sentence("15: none behind another PLAN that is as the one before").with(States.LARGEST).due("plan()", 64)
                .due("ordered(0)", NONE).due("ordered(63)", NONE).due("count(10)", 0);
        sentence("15: none when there is no PLAN any more, by wall()").with(States.BUSY).with("wall(3, 3)")
                .due("ordered(0)", NONE).due("count(10)", 0).with("plan()").due("ordered(0)", NONE).due("count(10)", 0);
        sentence("15: none when there is no PLAN any more, by cell()").with(States.BUSY).with("cell(0, 0, 10, 1)")
                .due("ordered(0)", NONE).due("count(10)", 0).with("plan()").due("ordered(0)", NONE).due("count(10)", 0);
        sentence("15: none when there is no PLAN any more, by motifs()").with(States.BUSY).with("motifs(2, 0)")
                .due("ordered(0)", NONE).due("count(10)", 0).with("plan()").due("ordered(0)", NONE).due("count(10)", 0);
    }
}
