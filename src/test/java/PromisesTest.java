/** Each promise by hand: ordinary inputs, the edges that the document names, wrong inputs. */
public final class PromisesTest {
    private static final Check CHECK = new Check();
    private static final int NONE = TempleRaised.NONE;

    public static void main(String[] args) {
        newObject();
        wall();
        cell();
        motifs();
        limit();
        saw();
        planFewestBlocks();
        planTies();
        planAroundCarvings();
        planAtHand();
        block();
        at();
        above();
        river();
        days();
        take();
        order();
        orderByPress();
        ordered();
        piled();
        sun();
        strikes();
        like();
        count();
        imageAndAgain();
        imageHoldsAll();
        CHECK.end();
    }

    private static void due(String call, long got, long want) {
        CHECK.due(call, got, want);
    }

    private static void due(String call, boolean got, boolean want) {
        CHECK.due(call, got, want);
    }

    /** A block's first column, lowest row, columns, rows as one number of four digits. */
    private static int shape(TempleRaised x, int block) {
        return x.block(block, 0) * 1000 + x.block(block, 1) * 100 + x.block(block, 2) * 10 + x.block(block, 3);
    }

    private static void counts(String where, TempleRaised x, int... want) {
        for (int what = 0; what < want.length; what++) {
            due(where + " count(" + what + ")", x.count(what), want[what]);
        }
    }

    /** One column of blocks of one cell each. */
    private static TempleRaised column(int height) {
        TempleRaised x = new TempleRaised();
        x.wall(1, height);
        x.limit(10);
        due("plan() of a column", x.plan(), height);
        return x;
    }

    /** One row of blocks of one cell each. */
    private static TempleRaised row(int width) {
        TempleRaised x = new TempleRaised();
        x.wall(width, 1);
        x.limit(10);
        due("plan() of a row", x.plan(), width);
        return x;
    }

    // Promise 1
    private static void newObject() {
        TempleRaised x = new TempleRaised();
        counts("1: new", x, 4, 4, 0, 0, 0, 0, 0, 160, 40, 1, 0, NONE);
        for (int k = 0; k < 3; k++) {
            due("1: again of a new object", x.again(k), false);
        }
        due("1: order()", x.order(), NONE);
        due("1: ordered(0)", x.ordered(0), NONE);
        due("1: piled(0, 0)", x.piled(0, 0), NONE);
        due("1: block(0, 0)", x.block(0, 0), NONE);
        due("1: at(0, 0)", x.at(0, 0), NONE);
        due("1: above(0, 0)", x.above(0, 0), false);
        x.limit(10);
        due("1: plan of no motifs", x.plan(), 16);
        for (int block = 0; block < 16; block++) {
            due("1: weight", x.block(block, 4), 10);
            due("1: no river", x.block(block, 5), NONE);
        }
    }

    // Promise 2
    private static void wall() {
        TempleRaised x = new TempleRaised();
        x.cell(0, 0, 50, 9);
        x.cell(1, 0, 50, 9);
        x.days(7);
        x.limit(100);
        x.saw(2);
        due("2: plan", x.plan() > 0, true);
        due("2: order", x.order(), 0);
        int top = x.at(0, 3);
        due("2: take", x.take(top), 0);
        int blocks = x.count(2);
        int[][] wrong = {{0, 4}, {4, 0}, {9, 4}, {4, 9}, {-1, 4}, {4, Integer.MIN_VALUE}, {Integer.MAX_VALUE, 4}};
        for (int[] sides : wrong) {
            due("2: wrong wall", x.wall(sides[0], sides[1]), false);
        }
        counts("2: after wrong walls", x, 4, 4, blocks, 1, x.count(4), 1, 8, 240, 100, 2, blocks);
        due("2: wall(4, 4)", x.wall(4, 4), true);
        counts("2: after the same wall", x, 4, 4, 0, 0, 0, 0, 8, 160, 100, 2, 0);
        due("2: piled", x.piled(0, 0), NONE);
        due("2: ordered", x.ordered(0), NONE);
        due("2: at", x.at(0, 0), NONE);
        x.limit(10);
        due("2: motifs are gone", x.plan(), 16);
        due("2: wall(1, 1)", x.wall(1, 1), true);
        counts("2: smallest", x, 1, 1, 0, 0, 0, 0, 8, 10);
        due("2: wall(8, 8)", x.wall(8, 8), true);
        counts("2: largest", x, 8, 8, 0, 0, 0, 0, 8, 640);
        due("2: plan of the largest", x.plan(), 64);
        due("2: sawn of the largest", x.count(4), 112);
        due("2: wall(8, 1)", x.wall(8, 1), true);
        due("2: wall(1, 8)", x.wall(1, 8), true);
        counts("2: last", x, 1, 8, 0);
    }

    // Promise 3
    private static void cell() {
        TempleRaised x = new TempleRaised();
        x.wall(3, 2);
        int[][] wrong = {
            {3, 0, 10, 0}, {0, 2, 10, 0}, {-1, 0, 10, 0}, {0, -1, 10, 0}, {2, 1, 0, 0}, {2, 1, 51, 0},
            {2, 1, -5, 0}, {2, 1, 10, 10}, {2, 1, 10, -1}, {Integer.MAX_VALUE, 0, 1, 0}, {0, Integer.MIN_VALUE, 1, 0},
        };
        due("3: plan", x.plan(), 2);
        for (int[] c : wrong) {
            due("3: wrong cell", x.cell(c[0], c[1], c[2], c[3]), false);
        }
        due("3: plan stays", x.count(2), 2);
        due("3: weight stays", x.count(7), 60);
        x.take(x.at(0, 1));
        x.order();
        due("3: cell as it was", x.cell(0, 0, 10, 0), true);
        counts("3: no plan then", x, 3, 2, 0, 0, 0, 0, 1, 60, 40, 1, 0);
        due("3: lightest", x.cell(0, 0, 1, 9), true);
        due("3: heaviest", x.cell(2, 1, 50, 0), true);
        due("3: weight", x.count(7), 91);
        due("3: plan", x.plan(), NONE);
        x.limit(50);
        due("3: plan", x.plan(), 3);
        due("3: heaviest is alone", x.block(x.at(2, 1), 4), 50);
        due("3: motif 9", x.cell(1, 0, 1, 9), true);
        x.wall(2, 2);
        x.limit(10);
        x.cell(0, 0, 1, 9);
        x.cell(1, 0, 1, 9);
        due("3: a carving of two cells", x.plan(), 3);
        due("3: it is one block", x.at(0, 0) == x.at(1, 0), true);
        x.cell(1, 0, 1, 8);
        x.cell(0, 1, 1, 9);
        due("3: a carving of two rows", x.plan(), 3);
        due("3: it is one block", x.at(0, 0) == x.at(0, 1), true);
        x.cell(0, 1, 10, 9);
        due("3: it is too heavy", x.plan(), NONE);
        x.cell(0, 0, 10, 9);
        x.cell(0, 1, 10, 0);
        due("3: no motif, no carving", x.plan(), 4);
    }

    // Promise 4
    private static void motifs() {
        TempleRaised x = new TempleRaised();
        x.wall(8, 1);
        x.limit(20);
        due("4: columns 1 and 2", x.motifs(0, 0x01100000), true);
        due("4: plan", x.plan(), 5);
        int[] shapes = {11, 1021, 3011, 4021, 6021};
        for (int block = 0; block < shapes.length; block++) {
            due("4: shape of " + block, shape(x, block), shapes[block]);
        }
        due("4: columns 0 and 1", x.motifs(0, 0x99000000), true);
        due("4: no plan then", x.count(2), 0);
        x.limit(19);
        due("4: plan through column 0", x.plan(), NONE);
        due("4: columns 6 and 7", x.motifs(0, 0x12345677), true);
        due("4: plan through column 7", x.plan(), NONE);
        due("4: all are others", x.motifs(0, 0x98765432), true);
        due("4: plan of others", x.plan(), 8);
        x.order();
        int[] wrong = {0xA0000000, 0x0A000000, 0x0000000A, 0x000F0000, -1, Integer.MAX_VALUE};
        for (int eight : wrong) {
            due("4: one is above 9", x.motifs(0, eight), false);
        }
        due("4: no such row", x.motifs(1, 0), false);
        due("4: no such row", x.motifs(-1, 0), false);
        due("4: no such row", x.motifs(Integer.MIN_VALUE, 0), false);
        due("4: plan stays", x.count(2), 8);
        due("4: order stays", x.count(10), 8);
        due("4: nothing changed", x.plan(), 8);
        motifsBeyond();
    }

    private static void motifsBeyond() {
        TempleRaised x = new TempleRaised();
        x.wall(2, 2);
        x.limit(10);
        due("4: beyond the wall, above 9", x.motifs(0, 0x000000A0), false);
        due("4: beyond the wall", x.motifs(1, 0x12222222), true);
        due("4: it counts for nothing", x.plan(), 4);
        due("4: row 0", x.motifs(0, 0x13000000), true);
        due("4: one motif in two rows", x.plan(), NONE);
        x.cell(0, 0, 7, 0);
        x.motifs(0, 0x55000000);
        x.motifs(0, 0);
        due("4: weights stay", x.count(7), 37);
    }

    // Promise 5
    private static void limit() {
        TempleRaised x = new TempleRaised();
        due("5: plan", x.plan(), 4);
        due("5: limit(3200)", x.limit(3200), true);
        due("5: limit", x.count(8), 3200);
        due("5: a plan stays", x.count(2), 4);
        due("5: limit(0)", x.limit(0), false);
        due("5: limit(3201)", x.limit(3201), false);
        due("5: limit(-40)", x.limit(-40), false);
        due("5: limit stays", x.count(8), 3200);
        due("5: plan", x.plan(), 1);
        due("5: limit(159)", x.limit(159), true);
        due("5: plan", x.plan(), 2);
        due("5: limit(160)", x.limit(160), true);
        due("5: plan as heavy as the limit", x.plan(), 1);
        due("5: limit(1)", x.limit(1), true);
        due("5: plan", x.plan(), NONE);
        due("5: limit", x.count(8), 1);
    }

    // Promise 6
    private static void saw() {
        TempleRaised x = row(3);
        due("6: wide at first", x.block(1, 10), 198);
        due("6: saw(9)", x.saw(9), true);
        due("6: both sides", x.block(1, 10), 182);
        due("6: left end", x.block(0, 10), 191);
        due("6: right end", x.block(2, 10), 191);
        int[] wrong = {0, 10, -1, Integer.MAX_VALUE, Integer.MIN_VALUE};
        for (int saw : wrong) {
            due("6: wrong saw", x.saw(saw), false);
        }
        due("6: saw stays", x.count(9), 9);
        due("6: plan stays", x.count(2), 3);
        due("6: saw(1)", x.saw(1), true);
        due("6: saw", x.count(9), 1);
    }

    // Promise 7
    private static void planFewestBlocks() {
        TempleRaised x = new TempleRaised();
        due("7: plan", x.plan(), 4);
        due("7: sawn", x.count(4), 8);
        x.limit(159);
        due("7: two blocks", x.plan(), 2);
        due("7: sawn", x.count(4), 4);
        // Two blocks need a long level cut; two upright ones would be shorter, but leave three.
        x.wall(5, 2);
        for (int row = 0; row < 2; row++) {
            x.cell(1, row, 1, 0);
            x.cell(3, row, 1, 0);
        }
        x.limit(32);
        due("7: fewest blocks ahead of least sawn", x.plan(), 2);
        due("7: sawn", x.count(4), 5);
        due("7: lower block", shape(x, 0), 51);
        due("7: upper block", shape(x, 1), 151);
        // One heavy cell: its block is cut out of the wall, all along each part.
        x.wall(3, 3);
        x.cell(1, 1, 50, 0);
        x.limit(50);
        due("7: a heavy cell inside", x.plan(), 5);
        due("7: sawn around it", x.count(4), 8);
        due("7: heavy block", x.block(x.at(1, 1), 4), 50);
    }

    private static void planTies() {
        TempleRaised x = new TempleRaised();
        x.wall(2, 2);
        x.limit(20);
        due("7: plan of a square", x.plan(), 2);
        due("7: upright goes ahead of level", shape(x, 0), 12);
        due("7: the right one behind it", shape(x, 1), 1012);
        x.wall(5, 1);
        x.limit(30);
        due("7: plan of a row", x.plan(), 2);
        due("7: least column", shape(x, 0), 21);
        due("7: the rest", shape(x, 1), 2031);
        x.wall(1, 5);
        due("7: plan of a column", x.plan(), 2);
        due("7: least row", shape(x, 0), 12);
        due("7: the rest", shape(x, 1), 213);
        x.wall(3, 1);
        x.limit(10);
        due("7: plan of cells", x.plan(), 3);
        for (int block = 0; block < 3; block++) {
            due("7: from the left", shape(x, block), 1000 * block + 11);
        }
        x.wall(2, 2);
        x.plan();
        int[] shapes = {11, 111, 1011, 1111};
        for (int block = 0; block < 4; block++) {
            due("7: all of the left part first", shape(x, block), shapes[block]);
        }
    }

    private static void planAroundCarvings() {
        TempleRaised x = new TempleRaised();
        x.wall(2, 2);
        x.limit(20);
        x.motifs(0, 0x44000000);
        due("7: a level cut alone is left", x.plan(), 2);
        due("7: lower", shape(x, 0), 21);
        due("7: upper", shape(x, 1), 121);
        x.motifs(1, 0x40000000);
        due("7: no cut at all is left", x.plan(), NONE);
        due("7: no plan at hand", x.count(2), 0);
        x.limit(40);
        due("7: no cut is needed", x.plan(), 1);
        due("7: none is sawn", x.count(4), 0);
        // Carvings like a wheel: each bars one side of the middle cell.
        x.wall(3, 3);
        x.motifs(0, 0x11200000);
        x.motifs(1, 0x30200000);
        x.motifs(2, 0x34400000);
        x.limit(89);
        due("7: a wheel can't be cut straight", x.plan(), NONE);
        x.limit(90);
        due("7: a wheel whole", x.plan(), 1);
    }

    private static void planAtHand() {
        TempleRaised x = new TempleRaised();
        x.plan();
        x.order();
        due("7: take", x.take(1), 0);
        x.limit(9);
        due("7: no plan", x.plan(), NONE);
        counts("7: at hand is what was", x, 4, 4, 4, 1, 8, 1, 1, 160, 9, 1, 4);
        due("7: piled", x.piled(0, 0), 1);
        due("7: ordered", x.ordered(0), 1);
        x.limit(40);
        due("7: the same plan again", x.plan(), 4);
        counts("7: all blocks stand", x, 4, 4, 4, 0, 8, 0, 1, 160, 40, 1, 0);
        due("7: stands", x.block(1, 7), 0);
        due("7: no pile", x.block(1, 9), NONE);
        due("7: no day", x.block(1, 11), NONE);
    }

    // Promise 8
    private static void block() {
        TempleRaised x = new TempleRaised();
        x.plan();
        x.river(2, 3);
        x.days(5);
        int[] standing = {2, 2, 2, 2, 40, 60, 3, 0, 1, NONE, 399, NONE, NONE};
        int[] taken = {2, 2, 2, 2, 40, 60, 3, 1, 0, 0, 399, 5, NONE};
        for (int what = 0; what < standing.length; what++) {
            due("8: block(3, " + what + ")", x.block(3, what), standing[what]);
        }
        due("8: take(3)", x.take(3), 0);
        for (int what = 0; what < taken.length; what++) {
            due("8: block(3, " + what + ") taken", x.block(3, what), taken[what]);
        }
        due("8: under a taken one", x.block(2, 8), 1);
        due("8: under a standing one", x.block(0, 8), 0);
        due("8: what is -1", x.block(0, -1), NONE);
        due("8: no block -1", x.block(-1, 0), NONE);
        due("8: no block 4", x.block(4, 0), NONE);
        due("8: no such block", x.block(Integer.MAX_VALUE, 0), NONE);
        due("8: no such what", x.block(0, Integer.MIN_VALUE), NONE);
        x.limit(160);
        x.plan();
        due("8: no side but ends", x.block(0, 10), 800);
    }

    // Promise 9
    private static void at() {
        TempleRaised x = new TempleRaised();
        due("9: no plan", x.at(0, 0), NONE);
        x.plan();
        int[] corners = {0, 2, 1, 3};
        for (int row = 0; row < 4; row++) {
            for (int column = 0; column < 4; column++) {
                due("9: at(" + column + ", " + row + ")", x.at(column, row), corners[row / 2 * 2 + column / 2]);
            }
        }
        due("9: column -1", x.at(-1, 0), NONE);
        due("9: column 4", x.at(4, 0), NONE);
        due("9: row -1", x.at(0, -1), NONE);
        due("9: row 4", x.at(0, 4), NONE);
        due("9: far out", x.at(Integer.MAX_VALUE, Integer.MIN_VALUE), NONE);
        x.take(1);
        due("9: a taken one has its cells", x.at(0, 3), 1);
    }

    // Promise 10
    private static void above() {
        TempleRaised x = new TempleRaised();
        due("10: no plan", x.above(1, 0), false);
        x.plan();
        due("10: two rows of one block", x.block(0, 3), 2);
        due("10: an own cell above an own one", x.above(0, 0), false);
        TempleRaised y = new TempleRaised();
        y.wall(2, 2);
        y.motifs(1, 0x11000000);
        y.cell(0, 0, 20, 0);
        y.cell(1, 0, 20, 0);
        y.limit(20);
        due("10: plan", y.plan(), 3);
        due("10: over both, the left one", y.above(2, 0), true);
        due("10: over both, the right one", y.above(2, 1), true);
        due("10: beside", y.above(1, 0), false);
        due("10: beneath", y.above(0, 2), false);
        due("10: no block 3", y.above(3, 0), false);
        due("10: no block -1", y.above(2, -1), false);
        due("10: far out", y.above(Integer.MIN_VALUE, Integer.MAX_VALUE), false);
        y.take(2);
        due("10: taken, still above", y.above(2, 0), true);
        TempleRaised z = column(3);
        due("10: right above", z.above(1, 0), true);
        due("10: not right above", z.above(2, 0), false);
        TempleRaised corners = new TempleRaised();
        corners.wall(2, 2);
        corners.limit(10);
        corners.plan();
        due("10: a corner to the right", corners.above(3, 0), false);
        due("10: a corner to the left", corners.above(1, 2), false);
    }

    // Promise 11
    private static void river() {
        TempleRaised x = column(8);
        int[][] wrong = {{-1, 0}, {12, 0}, {0, -1}, {0, 10}, {Integer.MAX_VALUE, 3}, {3, Integer.MIN_VALUE}};
        for (int[] r : wrong) {
            due("11: wrong river", x.river(r[0], r[1]), false);
        }
        due("11: none is due", x.block(0, 5), NONE);
        due("11: river(11, 9)", x.river(11, 9), true);
        due("11: due in month 11", x.block(7, 5), 330);
        due("11: river(0, 0)", x.river(0, 0), true);
        due("11: river(3, 2)", x.river(3, 2), true);
        due("11: row 0", x.block(0, 5), 90);
        due("11: row 1", x.block(1, 5), 90);
        due("11: row 2", x.block(2, 5), 330);
        due("11: river(0, 1)", x.river(0, 1), true);
        due("11: on day 0", x.block(0, 5), 0);
        due("11: plan stays", x.count(2), 8);
        x.days(100);
        due("11: the first day of all, not from today", x.block(0, 5), 0);
        due("11: a height goes back", x.river(3, 0), true);
        due("11: row 1", x.block(1, 5), 330);
    }

    // Promise 12
    private static void days() {
        TempleRaised x = row(2);
        int[] wrong = {0, -1, 101, Integer.MAX_VALUE, Integer.MIN_VALUE};
        for (int n : wrong) {
            due("12: wrong number of days", x.days(n), NONE);
        }
        due("12: day 0", x.count(6), 0);
        due("12: days(1)", x.days(1), 1);
        due("12: days(100)", x.days(100), 101);
        for (int n = 0; n < 48; n++) {
            x.days(100);
        }
        due("12: days(99)", x.days(99), 5000);
        due("12: above 5000", x.days(1), NONE);
        due("12: day", x.count(6), 5000);
        due("12: nothing was taken", x.count(3), 0);
        due("12: take on day 5000", x.take(0), NONE);
    }

    // Promise 13
    private static void take() {
        TempleRaised x = column(3);
        due("13: under others", x.take(0), NONE);
        due("13: no block 3", x.take(3), NONE);
        due("13: no block -1", x.take(-1), NONE);
        due("13: far out", x.take(Integer.MAX_VALUE), NONE);
        due("13: no day went by", x.count(6), 0);
        due("13: take(2)", x.take(2), 0);
        due("13: a day went by", x.count(6), 1);
        due("13: taken before", x.take(2), NONE);
        x.river(0, 2);
        due("13: under water", x.take(1), NONE);
        x.river(0, 1);
        due("13: right above the water", x.take(1), 0);
        due("13: row 0 is under water", x.take(0), NONE);
        x.days(28);
        due("13: month 1 begins", x.take(0), 0);
        due("13: on day 30", x.block(0, 11), 30);
        takeBeyondMonths();
        TempleRaised y = row(3);
        for (int n = 0; n < 49; n++) {
            y.days(100);
        }
        y.days(99);
        due("13: on day 4999", y.take(1), 0);
        due("13: day 5000", y.count(6), 5000);
        due("13: the day is 5000", y.take(0), NONE);
        due("13: one is taken", y.count(3), 1);
    }

    private static void takeBeyondMonths() {
        TempleRaised x = row(2);
        x.river(11, 1);
        x.days(100);
        x.days(100);
        x.days(100);
        x.days(29);
        due("13: on the last day of month 10", x.take(0), 0);
        due("13: month 11", x.take(1), NONE);
        x.days(30);
        due("13: month 12 is as 11", x.take(1), NONE);
        x.days(100);
        due("13: later months too", x.take(1), NONE);
        x.river(11, 0);
        due("13: no water", x.take(1), 1);
    }

    // Promise 14
    private static void order() {
        TempleRaised x = new TempleRaised();
        due("14: no plan", x.order(), NONE);
        TempleRaised y = column(8);
        y.river(0, 0);
        y.river(1, 4);
        y.days(23);
        due("14: row 0 on day 30 is late", y.order(), 1);
        y.river(1, 0);
        due("14: no water", y.order(), 0);
        y.river(1, 4);
        y.days(1);
        due("14: rows 0 and 1 are late", y.order(), 2);
        due("14: take", y.take(7), 0);
        due("14: from today on, of those that stand", y.order(), 2);
        due("14: places", y.count(10), 7);
        due("14: first", y.ordered(0), 6);
        y.days(100);
        due("14: all with a due are late", y.order(), 4);
        due("14: nothing is taken by it", y.count(3), 1);
        due("14: no day goes by", y.count(6), 125);
        x.wall(1, 1);
        x.plan();
        x.take(0);
        due("14: none stand", x.order(), 0);
        due("14: no places", x.count(10), 0);
    }

    private static void orderByPress() {
        TempleRaised x = new TempleRaised();
        x.wall(2, 2);
        x.limit(10);
        due("14: plan", x.plan(), 4);
        due("14: order", x.order(), 0);
        // Both tops have press 99999, of what is below 100000: the least number goes ahead.
        orderIs(x, 1, 3, 0, 2);
        x.wall(3, 1);
        x.plan();
        x.order();
        orderIs(x, 0, 1, 2);
        // A row over a high block: what is above more blocks is more pressing.
        x.wall(2, 3);
        x.cell(0, 0, 4, 1);
        x.cell(0, 1, 3, 1);
        x.cell(0, 2, 3, 1);
        due("14: plan", x.plan(), 4);
        due("14: the high one", shape(x, 0), 13);
        x.order();
        orderIs(x, 3, 2, 0, 1);
        x.river(0, 1);
        due("14: what is under water on day 0 is late", x.order(), 2);
        // Presses: 0 has 0, 1 has 0, 2 has -1, 3 has -2.
        orderIs(x, 3, 2, 0, 1);
        x.river(0, 0);
        x.river(1, 1);
        x.cell(1, 2, 20, 0);
        x.cell(1, 1, 10, 0);
        x.limit(20);
        due("14: plan", x.plan(), 3);
        x.order();
        orderIs(x, 2, 0, 1);
        // The right column has a high block below: its top is above one block, the left top above two.
        x.wall(2, 3);
        x.cell(1, 0, 5, 1);
        x.cell(1, 1, 5, 1);
        x.limit(10);
        x.river(1, 2);
        due("14: plan", x.plan(), 5);
        due("14: row 1 is due", x.block(1, 5), 30);
        due("14: row 2 is not", x.block(2, 5), NONE);
        due("14: order", x.order(), 0);
        orderIs(x, 2, 1, 4, 0, 3);
    }

    private static void orderIs(TempleRaised x, int... want) {
        due("14: places", x.count(10), want.length);
        for (int k = 0; k < want.length; k++) {
            due("14: ordered(" + k + ")", x.ordered(k), want[k]);
        }
    }

    // Promise 15
    private static void ordered() {
        TempleRaised x = row(3);
        due("15: not asked yet", x.ordered(0), NONE);
        x.order();
        orderIs(x, 0, 1, 2);
        due("15: ordered(-1)", x.ordered(-1), NONE);
        due("15: ordered(3)", x.ordered(3), NONE);
        due("15: far out", x.ordered(Integer.MAX_VALUE), NONE);
        x.take(0);
        x.days(3);
        orderIs(x, 0, 1, 2);
        x.order();
        orderIs(x, 1, 2);
        x.river(0, 1);
        x.limit(20);
        orderIs(x, 1, 2);
        x.limit(1);
        due("15: no other plan", x.plan(), NONE);
        orderIs(x, 1, 2);
        x.limit(10);
        x.plan();
        due("15: none behind another plan", x.ordered(0), NONE);
        due("15: no places", x.count(10), 0);
        x.order();
        x.motifs(0, 0);
        due("15: there is no plan any more", x.ordered(0), NONE);
        due("15: no order", x.order(), NONE);
        due("15: no places", x.count(10), 0);
    }

    // Promise 16
    private static void piled() {
        TempleRaised x = row(5);
        due("16: no piles", x.piled(0, 0), NONE);
        due("16: take(2)", x.take(2), 0);
        due("16: a later turn goes on a new pile", x.take(4), 1);
        due("16: on the least turn that is above", x.take(1), 0);
        due("16: the only one above", x.take(3), 1);
        due("16: least of both", x.take(0), 0);
        int[][] piles = {{2, 1, 0, NONE}, {4, 3, NONE, NONE}, {NONE, NONE, NONE, NONE}};
        for (int pile = 0; pile < piles.length; pile++) {
            for (int k = 0; k < 4; k++) {
                due("16: piled(" + pile + ", " + k + ")", x.piled(pile, k), piles[pile][k]);
            }
        }
        due("16: piles", x.count(5), 2);
        due("16: piled(-1, 0)", x.piled(-1, 0), NONE);
        due("16: piled(0, -1)", x.piled(0, -1), NONE);
        due("16: far out", x.piled(Integer.MAX_VALUE, Integer.MIN_VALUE), NONE);
        x.plan();
        due("16: none behind another plan", x.piled(0, 0), NONE);
        due("16: no piles", x.count(5), 0);
        // Turns go by row ahead of column: block 2 is the first of the right column, of turn 1.
        TempleRaised y = new TempleRaised();
        y.wall(2, 2);
        y.limit(10);
        y.plan();
        int[] turns = {0, 2, 1, 3};
        for (int block = 0; block < 4; block++) {
            due("16: turn of " + block, y.block(block, 6), turns[block]);
        }
        due("16: take(1)", y.take(1), 0);
        due("16: take(3)", y.take(3), 1);
        due("16: take(2)", y.take(2), 0);
        due("16: take(0)", y.take(0), 0);
    }

    // Promise 17
    private static void sun() {
        TempleRaised x = new TempleRaised();
        for (int day = 0; day < 365; day++) {
            due("17: sun(" + day + ")", x.sun(day), day <= 182 ? 365 - 4 * day : 4 * day - 1095);
        }
        int[] wrong = {-1, 365, Integer.MAX_VALUE, Integer.MIN_VALUE};
        for (int day : wrong) {
            due("17: no such day", x.sun(day), -1000);
        }
    }

    // Promise 18
    private static void strikes() {
        TempleRaised x = new TempleRaised();
        due("18: strikes(365, 0)", x.strikes(365, 0), 1);
        due("18: strikes(364, 0)", x.strikes(364, 0), 0);
        due("18: strikes(361, 0)", x.strikes(361, 0), 2);
        due("18: strikes(361, 3)", x.strikes(361, 3), 2);
        due("18: strikes(361, 4)", x.strikes(361, 4), 5);
        due("18: strikes(-363, 0)", x.strikes(-363, 0), 2);
        due("18: strikes(-400, 36)", x.strikes(-400, 36), 0);
        due("18: strikes(-400, 37)", x.strikes(-400, 37), 2);
        due("18: strikes(400, 35)", x.strikes(400, 35), 1);
        due("18: strikes(400, 34)", x.strikes(400, 34), 0);
        due("18: strikes(0, 400)", x.strikes(0, 400), 365);
        due("18: strikes(400, 400)", x.strikes(400, 400), 183);
        due("18: strikes(-400, 400)", x.strikes(-400, 400), 182);
        int[][] wrong = {
            {-401, 0}, {401, 0}, {0, -1}, {0, 401}, {Integer.MIN_VALUE, 0}, {0, Integer.MAX_VALUE}, {0, Integer.MIN_VALUE},
        };
        for (int[] p : wrong) {
            due("18: no such place", x.strikes(p[0], p[1]), NONE);
        }
    }

    // Promise 19
    private static void like() {
        TempleRaised x = new TempleRaised();
        due("19: like(365, 0, 0)", x.like(365, 0, 0), 365);
        due("19: like(1, 0, 0)", x.like(1, 0, 0), 1);
        due("19: none strikes", x.like(400, 0, 0), -400);
        due("19: least of several", x.like(-363, 0, 3), -366);
        due("19: all strike", x.like(0, 400, 400), -35);
        due("19: as few as can be", x.like(0, 400, 0), -363);
        due("19: the last place alone", x.like(365, 0, 38), 400);
        due("19: the least that has 365 alone", x.like(400, 35, 35), 397);
        due("19: the new place is open by m on both sides", x.like(1, 4, 8), -2);
        int[][] wrong = {
            {-401, 0, 0}, {401, 0, 0}, {0, -1, 0}, {0, 401, 0}, {0, 0, -1}, {0, 0, 401},
            {Integer.MAX_VALUE, 0, 0}, {0, Integer.MAX_VALUE, 0}, {0, 0, Integer.MIN_VALUE},
        };
        for (int[] p : wrong) {
            due("19: no such place", x.like(p[0], p[1], p[2]), -1000);
        }
    }

    // Promise 20
    private static void count() {
        TempleRaised x = new TempleRaised();
        x.wall(3, 2);
        x.limit(20);
        x.saw(4);
        x.days(9);
        due("20: plan", x.plan(), 3);
        x.order();
        x.take(x.at(2, 1));
        counts("20: all", x, 3, 2, 3, 1, 4, 1, 10, 60, 20, 4, 3);
        due("20: count(11)", x.count(11), NONE);
        due("20: count(-1)", x.count(-1), NONE);
        due("20: far out", x.count(Integer.MAX_VALUE), NONE);
        x.cell(0, 0, 11, 0);
        counts("20: without a plan", x, 3, 2, 0, 0, 0, 0, 10, 61, 20, 4, 0);
    }

    // Promises 21 and 22
    private static void imageAndAgain() {
        TempleRaised x = new TempleRaised();
        int[] wrong = {-1, 3, Integer.MAX_VALUE, Integer.MIN_VALUE};
        for (int k : wrong) {
            due("21: no such image", x.image(k), false);
            due("22: no such image", x.again(k), false);
        }
        due("22: none yet", x.again(2), false);
        due("21: image(2)", x.image(2), true);
        x.days(5);
        due("21: image(0)", x.image(0), true);
        due("22: none yet", x.again(1), false);
        x.days(5);
        due("22: again(2)", x.again(2), true);
        due("22: day 0", x.count(6), 0);
        due("22: other images stay", x.again(0), true);
        due("22: day 5", x.count(6), 5);
        x.days(1);
        due("22: again(0) once more", x.again(0), true);
        due("22: day 5 once more", x.count(6), 5);
        x.days(2);
        due("21: image(0) anew", x.image(0), true);
        x.again(2);
        due("22: again(0)", x.again(0), true);
        due("22: day 7", x.count(6), 7);
    }

    private static void imageHoldsAll() {
        TempleRaised x = new TempleRaised();
        x.wall(2, 2);
        x.cell(0, 0, 9, 0);
        x.limit(10);
        x.saw(3);
        x.river(0, 0);
        x.river(4, 2);
        x.plan();
        x.order();
        x.take(1);
        x.image(1);
        x.wall(8, 8);
        x.saw(8);
        x.cell(0, 0, 50, 5);
        x.motifs(1, 0x11111111);
        x.limit(90);
        due("22: another plan", x.plan() > 4, true);
        x.order();
        for (int k = 0; k < 6; k++) {
            due("22: taken of another plan", x.take(x.ordered(k)) >= 0, true);
        }
        for (int month = 0; month < 12; month++) {
            x.river(month, 9);
        }
        x.days(100);
        due("22: again(1)", x.again(1), true);
        counts("22: all", x, 2, 2, 4, 1, 4, 1, 1, 39, 10, 3, 4);
        int[] due = {120, 120, 120, 120};
        for (int block = 0; block < 4; block++) {
            due("22: due", x.block(block, 5), due[block]);
        }
        orderIs(x, 1, 3, 0, 2);
        due("22: pile", x.piled(0, 0), 1);
        due("22: taken on", x.block(1, 11), 0);
        due("22: wide", x.block(0, 10), 197);
        int[] shapes = {11, 111, 1011, 1111};
        int[] turns = {0, 2, 1, 3};
        for (int block = 0; block < 4; block++) {
            due("22: shape", shape(x, block), shapes[block]);
            due("22: turn", x.block(block, 6), turns[block]);
            due("22: at", x.at(block / 2, block % 2), block);
        }
        due("22: take(3)", x.take(3), 1);
        due("22: take(2)", x.take(2), 0);
        due("22: on the pile", x.piled(0, 1), 2);
        x.again(1);
        due("21: an image is not what goes on", x.count(3), 1);
        due("21: nor its piles", x.piled(1, 0), NONE);
        due("22: cells and motifs", x.plan(), 4);
    }
}
