import java.util.Arrays;

/**
 * A carved wall that is sawn into blocks, taken down ahead of a river, piled in a yard, and given a
 * new place in which the sun strikes as it did in the old one.
 */
public final class TempleRaised {
    /** There is none. */
    public static final int NONE = -1;

    private static final int NO_DIRECTION = -1000;
    private static final int SIDE = 8;
    private static final int CELLS = SIDE * SIDE;
    private static final int MOST_WEIGHT = 50;
    private static final int MOST_MOTIF = 9;
    private static final int MOST_LIMIT = 3200;
    private static final int MOST_SAW = 9;
    private static final int MONTHS = 12;
    private static final int DAYS_OF_A_MONTH = 30;
    private static final int MOST_HEIGHT = 9;
    private static final int MOST_DAYS_AT_ONCE = 100;
    private static final int LAST_DAY = 5000;
    private static final int DAYS_OF_A_YEAR = 365;
    private static final int MOST_DIRECTION = 400;
    private static final int MOST_OPEN = 400;
    private static final int IMAGES = 3;

    private final Site site;
    private final Sawyer sawyer;
    private final Foreman foreman;
    private final Site[] images;

    public TempleRaised() {
        site = new Site();
        sawyer = new Sawyer();
        foreman = new Foreman();
        images = new Site[IMAGES];
    }

    public boolean wall(int w, int h) {
        if (!within(w, 1, SIDE) || !within(h, 1, SIDE)) {
            return false;
        }
        site.wall.build(w, h);
        site.dropPlan();
        return true;
    }

    public boolean cell(int column, int row, int weight, int motif) {
        if (!site.wall.has(column, row)) {
            return false;
        }
        if (!within(weight, 1, MOST_WEIGHT) || !within(motif, 0, MOST_MOTIF)) {
            return false;
        }
        site.wall.weight[place(column, row)] = weight;
        site.wall.motif[place(column, row)] = motif;
        site.dropPlan();
        return true;
    }

    public boolean motifs(int row, int eight) {
        if (!site.wall.has(0, row) || !areMotifs(eight)) {
            return false;
        }
        for (int column = 0; column < site.wall.columns; column++) {
            site.wall.motif[place(column, row)] = halfByte(eight, column);
        }
        site.dropPlan();
        return true;
    }

    public boolean limit(int limit) {
        if (!within(limit, 1, MOST_LIMIT)) {
            return false;
        }
        site.limit = limit;
        return true;
    }

    public boolean saw(int saw) {
        if (!within(saw, 1, MOST_SAW)) {
            return false;
        }
        site.saw = saw;
        return true;
    }

    public int plan() {
        // What is at hand may go only when it is sure that another plan takes its place.
        if (!sawyer.findsPlan(site.wall, site.limit)) {
            return NONE;
        }
        site.dropPlan();
        sawyer.cutUp(site.wall, site.plan);
        return site.plan.blocks;
    }

    public int block(int block, int what) {
        if (!site.plan.has(block)) {
            return NONE;
        }
        switch (what) {
            case 0:
                return site.plan.left[block];
            case 1:
                return site.plan.low[block];
            case 2:
                return site.plan.columns[block];
            case 3:
                return site.plan.rows[block];
            case 4:
                return site.weightOf(block);
            case 5:
                return site.dueOf(block);
            case 6:
                return site.plan.turn[block];
            case 7:
                return site.yard.isTaken(block) ? 1 : 0;
            case 8:
                return site.isFree(block) ? 1 : 0;
            case 9:
                return site.yard.pileOf[block];
            case 10:
                return site.wideOf(block);
            case 11:
                return site.yard.takenOn[block];
            default:
                return NONE;
        }
    }

    public int at(int column, int row) {
        if (site.plan.blocks == 0 || !site.wall.has(column, row)) {
            return NONE;
        }
        return site.plan.blockAt[place(column, row)];
    }

    public boolean above(int a, int b) {
        return site.plan.has(a) && site.plan.has(b) && site.plan.isAbove(a, b);
    }

    public boolean river(int month, int height) {
        if (!within(month, 0, MONTHS - 1) || !within(height, 0, MOST_HEIGHT)) {
            return false;
        }
        site.river.height[month] = height;
        return true;
    }

    public int days(int n) {
        if (!within(n, 1, MOST_DAYS_AT_ONCE) || site.day + n > LAST_DAY) {
            return NONE;
        }
        site.day += n;
        return site.day;
    }

    public int take(int block) {
        if (!site.plan.has(block) || !site.isFree(block)) {
            return NONE;
        }
        if (site.river.covers(site.plan.low[block], site.day) || site.day >= LAST_DAY) {
            return NONE;
        }
        int pile = site.yard.lay(block, site.plan.turn, site.day);
        site.day++;
        return pile;
    }

    public int order() {
        if (site.plan.blocks == 0) {
            return NONE;
        }
        return foreman.arrange(site);
    }

    public int ordered(int k) {
        if (!within(k, 0, site.order.places - 1)) {
            return NONE;
        }
        return site.order.block[k];
    }

    public int piled(int pile, int k) {
        if (!within(pile, 0, site.yard.piles - 1)) {
            return NONE;
        }
        return site.yard.blockIn(pile, k, site.plan.blocks);
    }

    public int sun(int day) {
        if (!within(day, 0, DAYS_OF_A_YEAR - 1)) {
            return NO_DIRECTION;
        }
        return Sun.direction(day);
    }

    public int strikes(int g, int n) {
        if (!isPlace(g, n)) {
            return NONE;
        }
        return Sun.daysBetween(g - n, g + n);
    }

    public int like(int g, int n, int m) {
        if (!isPlace(g, n) || !isPlace(g, m)) {
            return NO_DIRECTION;
        }
        return Sun.mostAlike(g, n, m);
    }

    public int count(int what) {
        switch (what) {
            case 0:
                return site.wall.columns;
            case 1:
                return site.wall.rows;
            case 2:
                return site.plan.blocks;
            case 3:
                return site.yard.taken;
            case 4:
                return site.plan.sawn;
            case 5:
                return site.yard.piles;
            case 6:
                return site.day;
            case 7:
                return site.wall.weightOf(0, site.wall.columns, 0, site.wall.rows);
            case 8:
                return site.limit;
            case 9:
                return site.saw;
            case 10:
                return site.order.places;
            default:
                return NONE;
        }
    }

    public boolean image(int k) {
        if (!within(k, 0, IMAGES - 1)) {
            return false;
        }
        // An image's rows are made once and used again, so that many images cost no more room.
        if (images[k] == null) {
            images[k] = new Site();
        }
        images[k].become(site);
        return true;
    }

    public boolean again(int k) {
        if (!within(k, 0, IMAGES - 1) || images[k] == null) {
            return false;
        }
        site.become(images[k]);
        return true;
    }

    private static boolean within(int number, int least, int most) {
        return number >= least && number <= most;
    }

    private static int place(int column, int row) {
        return row * SIDE + column;
    }

    private static int halfByte(int eight, int column) {
        return (eight >>> (4 * (SIDE - 1 - column))) & 15;
    }

    // Half bytes beyond the wall are looked at too: the document refuses a row if "one is above 9".
    private static boolean areMotifs(int eight) {
        for (int column = 0; column < SIDE; column++) {
            if (halfByte(eight, column) > MOST_MOTIF) {
                return false;
            }
        }
        return true;
    }

    private static boolean isPlace(int direction, int open) {
        return within(direction, -MOST_DIRECTION, MOST_DIRECTION) && within(open, 0, MOST_OPEN);
    }

    private static void copyRow(int[] from, int[] to) {
        System.arraycopy(from, 0, to, 0, Math.min(from.length, to.length));
    }

    /** The cells as they are carved. */
    private static final class Wall {
        private static final int FIRST_SIDE = 4;
        private static final int FIRST_WEIGHT = 10;

        int columns;
        int rows;
        final int[] weight = new int[CELLS];
        final int[] motif = new int[CELLS];

        Wall() {
            build(FIRST_SIDE, FIRST_SIDE);
        }

        void build(int newColumns, int newRows) {
            columns = newColumns;
            rows = newRows;
            Arrays.fill(weight, FIRST_WEIGHT);
            Arrays.fill(motif, 0);
        }

        boolean has(int column, int row) {
            return within(column, 0, columns - 1) && within(row, 0, rows - 1);
        }

        boolean isOneCarving(int onePlace, int otherPlace) {
            return motif[onePlace] != 0 && motif[onePlace] == motif[otherPlace];
        }

        int weightOf(int left, int wide, int low, int tall) {
            int sum = 0;
            for (int row = low; row < low + tall; row++) {
                for (int column = left; column < left + wide; column++) {
                    sum += weight[place(column, row)];
                }
            }
            return sum;
        }

        void become(Wall other) {
            columns = other.columns;
            rows = other.rows;
            copyRow(other.weight, weight);
            copyRow(other.motif, motif);
        }
    }

    /** The blocks of the plan at hand; no blocks: there is no plan, as every plan has one at least. */
    private static final class Plan {
        int blocks;
        int sawn;
        final int[] left = new int[CELLS];
        final int[] low = new int[CELLS];
        final int[] columns = new int[CELLS];
        final int[] rows = new int[CELLS];
        final int[] turn = new int[CELLS];
        final int[] blockAt = new int[CELLS];

        void drop() {
            blocks = 0;
            sawn = 0;
        }

        boolean has(int block) {
            return within(block, 0, blocks - 1);
        }

        boolean isAbove(int upper, int lower) {
            return low[upper] == low[lower] + rows[lower]
                    && left[upper] < left[lower] + columns[lower]
                    && left[lower] < left[upper] + columns[upper];
        }

        void startWith(int wide, int tall) {
            blocks = 1;
            sawn = 0;
            left[0] = 0;
            low[0] = 0;
            columns[0] = wide;
            rows[0] = tall;
        }

        void cutUpright(int block, int column) {
            makeTwo(block);
            columns[block] = column + 1 - left[block];
            left[block + 1] = column + 1;
            columns[block + 1] -= columns[block];
            sawn += rows[block];
        }

        void cutLevel(int block, int row) {
            makeTwo(block);
            rows[block] = row + 1 - low[block];
            low[block + 1] = row + 1;
            rows[block + 1] -= rows[block];
            sawn += columns[block];
        }

        // The right or upper part comes right behind the left or lower one, so that the places of
        // the parts are the numbers of the blocks in the end.
        private void makeTwo(int block) {
            moveUp(left, block);
            moveUp(low, block);
            moveUp(columns, block);
            moveUp(rows, block);
            blocks++;
        }

        private void moveUp(int[] row, int block) {
            System.arraycopy(row, block, row, block + 1, blocks - block);
        }

        void numberCells() {
            for (int block = 0; block < blocks; block++) {
                numberCellsOf(block);
            }
        }

        private void numberCellsOf(int block) {
            for (int row = low[block]; row < low[block] + rows[block]; row++) {
                for (int column = left[block]; column < left[block] + columns[block]; column++) {
                    blockAt[place(column, row)] = block;
                }
            }
        }

        void findTurns(int wide, int tall) {
            int next = 0;
            for (int row = 0; row < tall; row++) {
                for (int column = 0; column < wide; column++) {
                    int block = blockAt[place(column, row)];
                    if (low[block] == row && left[block] == column) {
                        turn[block] = next;
                        next++;
                    }
                }
            }
        }

        void become(Plan other) {
            blocks = other.blocks;
            sawn = other.sawn;
            copyRow(other.left, left);
            copyRow(other.low, low);
            copyRow(other.columns, columns);
            copyRow(other.rows, rows);
            copyRow(other.turn, turn);
            copyRow(other.blockAt, blockAt);
        }
    }

    /** Finds the plan: what each part costs at the least, small parts ahead of those made of them. */
    private static final class Sawyer {
        // A cost is one number, blocks above sawn, so that fewer blocks always go ahead of less
        // sawn; no wall has more than 112 cells' length to saw.
        private static final int ONE_BLOCK = 256;
        private static final int NO_PLAN = 1 << 20;
        private static final int SPANS = SIDE * (SIDE + 1) / 2;
        private static final int CORNERS = SIDE + 1;

        private int limit;
        private final int[] cost = new int[SPANS * SPANS];
        // The weight of all cells to the left of a corner and below it.
        private final int[] weightTo = new int[CORNERS * CORNERS];
        // Bit r of uprightBars[c]: a carving goes on from column c to the next one in row r.
        private final int[] uprightBars = new int[SIDE];
        private final int[] levelBars = new int[SIDE];

        boolean findsPlan(Wall wall, int newLimit) {
            limit = newLimit;
            addUpWeights(wall);
            findBars(wall);
            for (int right = 0; right < wall.columns; right++) {
                for (int left = right; left >= 0; left--) {
                    findCosts(left, right, wall.rows);
                }
            }
            return cost[part(0, wall.columns - 1, 0, wall.rows - 1)] < NO_PLAN;
        }

        void cutUp(Wall wall, Plan plan) {
            plan.startWith(wall.columns, wall.rows);
            int block = 0;
            // Each step makes one more block or is done with one, and there are CELLS at the most.
            for (int step = 0; step < 2 * CELLS && block < plan.blocks; step++) {
                if (!cutsFirst(plan, block)) {
                    block++;
                }
            }
            plan.numberCells();
            plan.findTurns(wall.columns, wall.rows);
        }

        private boolean cutsFirst(Plan plan, int block) {
            int left = plan.left[block];
            int right = left + plan.columns[block] - 1;
            int low = plan.low[block];
            int high = low + plan.rows[block] - 1;
            int least = cost[part(left, right, low, high)];
            if (least == ONE_BLOCK || plan.blocks >= CELLS) {
                return false;
            }
            for (int column = left; column < right; column++) {
                if (uprightCost(left, right, low, high, column) == least) {
                    plan.cutUpright(block, column);
                    return true;
                }
            }
            for (int row = low; row < high; row++) {
                if (levelCost(left, right, low, high, row) == least) {
                    plan.cutLevel(block, row);
                    return true;
                }
            }
            return false;
        }

        private void addUpWeights(Wall wall) {
            for (int row = 0; row < wall.rows; row++) {
                int ofRow = 0;
                for (int column = 0; column < wall.columns; column++) {
                    ofRow += wall.weight[place(column, row)];
                    weightTo[corner(column + 1, row + 1)] = weightTo[corner(column + 1, row)] + ofRow;
                }
            }
        }

        private void findBars(Wall wall) {
            Arrays.fill(uprightBars, 0);
            Arrays.fill(levelBars, 0);
            for (int row = 0; row < wall.rows; row++) {
                for (int column = 0; column < wall.columns; column++) {
                    findBarsOf(wall, column, row);
                }
            }
        }

        private void findBarsOf(Wall wall, int column, int row) {
            int here = place(column, row);
            if (wall.has(column + 1, row) && wall.isOneCarving(here, place(column + 1, row))) {
                uprightBars[column] |= 1 << row;
            }
            if (wall.has(column, row + 1) && wall.isOneCarving(here, place(column, row + 1))) {
                levelBars[row] |= 1 << column;
            }
        }

        private void findCosts(int left, int right, int rows) {
            for (int high = 0; high < rows; high++) {
                for (int low = high; low >= 0; low--) {
                    cost[part(left, right, low, high)] = leastCost(left, right, low, high);
                }
            }
        }

        private int leastCost(int left, int right, int low, int high) {
            if (weightOfPart(left, right, low, high) <= limit) {
                return ONE_BLOCK;
            }
            int least = NO_PLAN;
            for (int column = left; column < right; column++) {
                least = Math.min(least, uprightCost(left, right, low, high, column));
            }
            for (int row = low; row < high; row++) {
                least = Math.min(least, levelCost(left, right, low, high, row));
            }
            return least;
        }

        private int uprightCost(int left, int right, int low, int high, int column) {
            if (isBarred(uprightBars[column], low, high)) {
                return NO_PLAN;
            }
            return cost[part(left, column, low, high)] + cost[part(column + 1, right, low, high)]
                    + high - low + 1;
        }

        private int levelCost(int left, int right, int low, int high, int row) {
            if (isBarred(levelBars[row], left, right)) {
                return NO_PLAN;
            }
            return cost[part(left, right, low, row)] + cost[part(left, right, row + 1, high)]
                    + right - left + 1;
        }

        private static boolean isBarred(int bars, int first, int last) {
            return ((bars >> first) & ((1 << (last - first + 1)) - 1)) != 0;
        }

        private int weightOfPart(int left, int right, int low, int high) {
            return weightTo[corner(right + 1, high + 1)] - weightTo[corner(left, high + 1)]
                    - weightTo[corner(right + 1, low)] + weightTo[corner(left, low)];
        }

        private static int corner(int column, int row) {
            return row * CORNERS + column;
        }

        private static int part(int left, int right, int low, int high) {
            return span(left, right) * SPANS + span(low, high);
        }

        private static int span(int first, int last) {
            return last * (last + 1) / 2 + first;
        }
    }

    /** How high the water stands, month by month. */
    private static final class River {
        final int[] height = new int[MONTHS];

        boolean covers(int row, int day) {
            int month = Math.min(day / DAYS_OF_A_MONTH, MONTHS - 1);
            return row < height[month];
        }

        int firstDayOver(int row) {
            for (int month = 0; month < MONTHS; month++) {
                if (row < height[month]) {
                    return month * DAYS_OF_A_MONTH;
                }
            }
            return NONE;
        }

        void become(River other) {
            copyRow(other.height, height);
        }
    }

    /** Which blocks are taken, and the piles that they lie on. */
    private static final class Yard {
        int taken;
        int piles;
        final int[] takenOn = new int[CELLS];
        final int[] pileOf = new int[CELLS];
        private final int[] placeOf = new int[CELLS];
        private final int[] uppermost = new int[CELLS];

        Yard() {
            clear();
        }

        void clear() {
            taken = 0;
            piles = 0;
            Arrays.fill(takenOn, NONE);
            Arrays.fill(pileOf, NONE);
        }

        boolean isTaken(int block) {
            return takenOn[block] != NONE;
        }

        int lay(int block, int[] turn, int day) {
            int pile = pileFor(block, turn);
            if (pile == piles) {
                placeOf[block] = 0;
                piles++;
            } else {
                placeOf[block] = placeOf[uppermost[pile]] + 1;
            }
            uppermost[pile] = block;
            pileOf[block] = pile;
            takenOn[block] = day;
            taken++;
            return pile;
        }

        // The number behind the last pile stands for a new one.
        private int pileFor(int block, int[] turn) {
            int best = piles;
            int least = CELLS;
            for (int pile = 0; pile < piles; pile++) {
                int top = turn[uppermost[pile]];
                if (top > turn[block] && top < least) {
                    best = pile;
                    least = top;
                }
            }
            return best;
        }

        int blockIn(int pile, int k, int blocks) {
            for (int block = 0; block < blocks; block++) {
                if (pileOf[block] == pile && placeOf[block] == k) {
                    return block;
                }
            }
            return NONE;
        }

        void become(Yard other) {
            taken = other.taken;
            piles = other.piles;
            copyRow(other.takenOn, takenOn);
            copyRow(other.pileOf, pileOf);
            copyRow(other.placeOf, placeOf);
            copyRow(other.uppermost, uppermost);
        }
    }

    /** The order that was asked last. */
    private static final class Order {
        int places;
        final int[] block = new int[CELLS];

        void clear() {
            places = 0;
        }

        void add(int next) {
            if (places < CELLS) {
                block[places] = next;
                places++;
            }
        }

        void become(Order other) {
            places = other.places;
            copyRow(other.block, block);
        }
    }

    /** All that an image keeps. */
    private static final class Site {
        private static final int FIRST_LIMIT = 40;
        private static final int FIRST_SAW = 1;
        private static final int CELL_IN_HALVES = 200;

        int limit = FIRST_LIMIT;
        int saw = FIRST_SAW;
        int day = 0;
        final Wall wall = new Wall();
        final Plan plan = new Plan();
        final River river = new River();
        final Yard yard = new Yard();
        final Order order = new Order();

        void dropPlan() {
            plan.drop();
            yard.clear();
            order.clear();
        }

        int weightOf(int block) {
            return wall.weightOf(plan.left[block], plan.columns[block], plan.low[block], plan.rows[block]);
        }

        int dueOf(int block) {
            return river.firstDayOver(plan.low[block]);
        }

        boolean isInTime(int block, int takenOn) {
            int due = dueOf(block);
            return due == NONE || takenOn < due;
        }

        boolean isFree(int block) {
            if (yard.isTaken(block)) {
                return false;
            }
            int rowAbove = plan.low[block] + plan.rows[block];
            if (rowAbove >= wall.rows) {
                return true;
            }
            for (int column = plan.left[block]; column < plan.left[block] + plan.columns[block]; column++) {
                if (!yard.isTaken(plan.blockAt[place(column, rowAbove)])) {
                    return false;
                }
            }
            return true;
        }

        int wideOf(int block) {
            int wide = CELL_IN_HALVES * plan.columns[block];
            if (plan.left[block] > 0) {
                wide -= saw;
            }
            if (plan.left[block] + plan.columns[block] < wall.columns) {
                wide -= saw;
            }
            return wide;
        }

        void become(Site other) {
            limit = other.limit;
            saw = other.saw;
            day = other.day;
            wall.become(other.wall);
            plan.become(other.plan);
            river.become(other.river);
            yard.become(other.yard);
            order.become(other.order);
        }
    }

    /** Finds the order in which the blocks that stand are to be taken. */
    private static final class Foreman {
        private static final int NO_DUE = 100000;
        // More than any press, so that what is taken or has its place is never the most pressing.
        private static final int PLACED = NO_DUE + 1;

        private final int[] press = new int[CELLS];

        int arrange(Site site) {
            findPress(site);
            passOverTaken(site);
            site.order.clear();
            int late = 0;
            int standing = site.plan.blocks - site.yard.taken;
            for (int k = 0; k < standing; k++) {
                int next = mostPressing(site.plan.blocks);
                site.order.add(next);
                press[next] = PLACED;
                if (!site.isInTime(next, site.day + k)) {
                    late++;
                }
            }
            return late;
        }

        // Row by row from below, so that the press of what is below is known before it is handed
        // up. What is under a standing block stands as well, so none that is taken presses one.
        private void findPress(Site site) {
            Plan plan = site.plan;
            for (int block = 0; block < plan.blocks; block++) {
                int due = site.dueOf(block);
                press[block] = due == NONE ? NO_DUE : due;
            }
            for (int row = 1; row < site.wall.rows; row++) {
                for (int column = 0; column < site.wall.columns; column++) {
                    int upper = plan.blockAt[place(column, row)];
                    int lower = plan.blockAt[place(column, row - 1)];
                    if (upper != lower) {
                        press[upper] = Math.min(press[upper], press[lower] - 1);
                    }
                }
            }
        }

        private void passOverTaken(Site site) {
            for (int block = 0; block < site.plan.blocks; block++) {
                if (site.yard.isTaken(block)) {
                    press[block] = PLACED;
                }
            }
        }

        // Whether a block is free need not be asked: what is above one has less press than it, so
        // the one with the least press of all has none above it that still stands.
        private int mostPressing(int blocks) {
            int best = 0;
            for (int block = 1; block < blocks; block++) {
                if (press[block] < press[best]) {
                    best = block;
                }
            }
            return best;
        }
    }

    /** The sun's year. */
    private static final class Sun {
        private static final int HIGHEST = 365;
        private static final int LOWEST = -363;
        private static final int STEP = 4;

        static int direction(int day) {
            return Math.abs((4 * day) % 1460 - 730) - 365;
        }

        static int daysBetween(int low, int high) {
            return low > high ? 0 : daysUpTo(high) - daysUpTo(low - 1);
        }

        // Day d and day 365 - d have one direction, LOWEST and then STEP by STEP; day 0 alone has
        // the highest. So days need not be gone through, which like() would do 801 times.
        private static int daysUpTo(int direction) {
            if (direction < LOWEST) {
                return 0;
            }
            if (direction >= HIGHEST) {
                return DAYS_OF_A_YEAR;
            }
            return 2 * ((direction - LOWEST) / STEP + 1);
        }

        static int mostAlike(int g, int n, int m) {
            int ofOld = daysBetween(g - n, g + n);
            int best = -MOST_DIRECTION;
            int fewest = 2 * DAYS_OF_A_YEAR;
            for (int other = -MOST_DIRECTION; other <= MOST_DIRECTION; other++) {
                int ofNew = daysBetween(other - m, other + m);
                int ofBoth = daysBetween(Math.max(g - n, other - m), Math.min(g + n, other + m));
                int unlike = ofOld + ofNew - 2 * ofBoth;
                if (unlike < fewest) {
                    best = other;
                    fewest = unlike;
                }
            }
            return best;
        }
    }
}
