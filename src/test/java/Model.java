import java.util.ArrayList;
import java.util.HashMap;
import java.util.List;
import java.util.Map;

/** The document word by word, as slow as it likes: what TempleRaised is compared with. */
final class Model {
    private static final int NONE = -1;

    /** A rectangle of cells. */
    record Part(int left, int low, int columns, int rows) {
        boolean has(int column, int row) {
            return column >= left && column < left + columns && row >= low && row < low + rows;
        }
    }

    /** A plan of a part: its blocks by number, how much is sawn, and the cuts, each part's ahead of its parts'. */
    record Plan(List<Part> blocks, int sawn, List<Integer> cuts) {
    }

    private int w = 4;
    private int h = 4;
    private int[][] weight = new int[4][4];
    private int[][] motif = new int[4][4];
    private int limit = 40;
    private int saw = 1;
    private int day = 0;
    private int[] river = new int[12];
    private Plan plan = null;
    private Map<Integer, Integer> takenOn = new HashMap<>();
    private List<List<Integer>> piles = new ArrayList<>();
    private List<Integer> order = new ArrayList<>();
    private Model[] images = new Model[3];

    Model() {
        wall(4, 4);
    }

    private void become(Model other) {
        w = other.w;
        h = other.h;
        weight = copy(other.weight);
        motif = copy(other.motif);
        limit = other.limit;
        saw = other.saw;
        day = other.day;
        river = other.river.clone();
        plan = other.plan;
        takenOn = new HashMap<>(other.takenOn);
        piles = new ArrayList<>();
        for (List<Integer> pile : other.piles) {
            piles.add(new ArrayList<>(pile));
        }
        order = new ArrayList<>(other.order);
    }

    private static int[][] copy(int[][] rows) {
        int[][] copy = new int[rows.length][];
        for (int k = 0; k < rows.length; k++) {
            copy[k] = rows[k].clone();
        }
        return copy;
    }

    private void noPlan() {
        plan = null;
        stand();
    }

    private void stand() {
        takenOn.clear();
        piles.clear();
        order.clear();
    }

    boolean wall(int columns, int rows) {
        if (columns < 1 || columns > 8 || rows < 1 || rows > 8) {
            return false;
        }
        w = columns;
        h = rows;
        weight = new int[w][h];
        motif = new int[w][h];
        for (int[] column : weight) {
            java.util.Arrays.fill(column, 10);
        }
        noPlan();
        return true;
    }

    boolean cell(int column, int row, int newWeight, int newMotif) {
        if (!isCell(column, row) || newWeight < 1 || newWeight > 50 || newMotif < 0 || newMotif > 9) {
            return false;
        }
        weight[column][row] = newWeight;
        motif[column][row] = newMotif;
        noPlan();
        return true;
    }

    boolean motifs(int row, int eight) {
        String digits = String.format("%08x", eight);
        if (row < 0 || row >= h || !digits.matches("[0-9]{8}")) {
            return false;
        }
        for (int column = 0; column < w; column++) {
            motif[column][row] = digits.charAt(column) - '0';
        }
        noPlan();
        return true;
    }

    boolean limit(int newLimit) {
        if (newLimit < 1 || newLimit > 3200) {
            return false;
        }
        limit = newLimit;
        return true;
    }

    boolean saw(int newSaw) {
        if (newSaw < 1 || newSaw > 9) {
            return false;
        }
        saw = newSaw;
        return true;
    }

    int plan() {
        Part wall = new Part(0, 0, w, h);
        Plan found = w * h <= 12 ? best(allPlans(wall)) : bestOf(wall, new HashMap<>());
        if (found == null) {
            return NONE;
        }
        plan = found;
        stand();
        return plan.blocks.size();
    }

    private boolean isCell(int column, int row) {
        return column >= 0 && column < w && row >= 0 && row < h;
    }

    private int weightOf(Part part) {
        int sum = 0;
        for (int column = 0; column < w; column++) {
            for (int row = 0; row < h; row++) {
                sum += part.has(column, row) ? weight[column][row] : 0;
            }
        }
        return sum;
    }

    private boolean mayPart(int column, int row, int otherColumn, int otherRow) {
        int one = motif[column][row];
        return one == 0 || one != motif[otherColumn][otherRow];
    }

    /** The two parts behind each cut that may be, by the cut: upright ones are 0 .. 7, level ones 8 .. 15. */
    private Map<Integer, Part[]> cutsOf(Part part) {
        Map<Integer, Part[]> cuts = new java.util.TreeMap<>();
        for (int column = part.left; column < part.left + part.columns - 1; column++) {
            boolean may = true;
            for (int row = part.low; row < part.low + part.rows; row++) {
                may &= mayPart(column, row, column + 1, row);
            }
            int wide = column + 1 - part.left;
            if (may) {
                cuts.put(column, new Part[] {new Part(part.left, part.low, wide, part.rows),
                    new Part(column + 1, part.low, part.columns - wide, part.rows)});
            }
        }
        for (int row = part.low; row < part.low + part.rows - 1; row++) {
            boolean may = true;
            for (int column = part.left; column < part.left + part.columns; column++) {
                may &= mayPart(column, row, column, row + 1);
            }
            int high = row + 1 - part.low;
            if (may) {
                cuts.put(8 + row, new Part[] {new Part(part.left, part.low, part.columns, high),
                    new Part(part.left, row + 1, part.columns, part.rows - high)});
            }
        }
        return cuts;
    }

    private static Plan joined(Part part, int cut, Plan first, Plan second) {
        List<Part> blocks = new ArrayList<>(first.blocks);
        blocks.addAll(second.blocks);
        List<Integer> cuts = new ArrayList<>();
        cuts.add(cut);
        cuts.addAll(first.cuts);
        cuts.addAll(second.cuts);
        int length = cut < 8 ? part.rows : part.columns;
        return new Plan(blocks, first.sawn + second.sawn + length, cuts);
    }

    private static Plan uncut(Part part) {
        return new Plan(List.of(part), 0, List.of(NONE));
    }

    /** Every plan there is, with needless cuts too. */
    private List<Plan> allPlans(Part part) {
        List<Plan> plans = new ArrayList<>();
        if (weightOf(part) <= limit) {
            plans.add(uncut(part));
        }
        cutsOf(part).forEach((cut, two) -> {
            List<Plan> seconds = allPlans(two[1]);
            for (Plan first : allPlans(two[0])) {
                for (Plan second : seconds) {
                    plans.add(joined(part, cut, first, second));
                }
            }
        });
        return plans;
    }

    private static Plan best(List<Plan> plans) {
        Plan best = null;
        for (Plan plan : plans) {
            if (best == null || isAhead(plan, best)) {
                best = plan;
            }
        }
        return best;
    }

    private static boolean isAhead(Plan one, Plan other) {
        if (one.blocks.size() != other.blocks.size()) {
            return one.blocks.size() < other.blocks.size();
        }
        if (one.sawn != other.sawn) {
            return one.sawn < other.sawn;
        }
        for (int k = 0; k < Math.min(one.cuts.size(), other.cuts.size()); k++) {
            if (!one.cuts.get(k).equals(other.cuts.get(k))) {
                return one.cuts.get(k) < other.cuts.get(k);
            }
        }
        return false;
    }

    private Plan bestOf(Part part, Map<Part, Plan> known) {
        if (known.containsKey(part)) {
            return known.get(part);
        }
        List<Plan> plans = new ArrayList<>();
        if (weightOf(part) <= limit) {
            plans.add(uncut(part));
        } else {
            cutsOf(part).forEach((cut, two) -> {
                Plan first = bestOf(two[0], known);
                Plan second = bestOf(two[1], known);
                if (first != null && second != null) {
                    plans.add(joined(part, cut, first, second));
                }
            });
        }
        Plan best = best(plans);
        known.put(part, best);
        return best;
    }

    private int blocks() {
        return plan == null ? 0 : plan.blocks.size();
    }

    private boolean isBlock(int block) {
        return block >= 0 && block < blocks();
    }

    int block(int block, int what) {
        if (!isBlock(block)) {
            return NONE;
        }
        Part part = plan.blocks.get(block);
        return switch (what) {
            case 0 -> part.left;
            case 1 -> part.low;
            case 2 -> part.columns;
            case 3 -> part.rows;
            case 4 -> weightOf(part);
            case 5 -> due(block);
            case 6 -> turn(block);
            case 7 -> takenOn.containsKey(block) ? 1 : 0;
            case 8 -> isFree(block, takenOn.keySet()) ? 1 : 0;
            case 9 -> pileOf(block);
            case 10 -> wide(part);
            case 11 -> takenOn.getOrDefault(block, NONE);
            default -> NONE;
        };
    }

    private int heightOn(int someDay) {
        return river[Math.min(someDay / 30, 11)];
    }

    private int due(int block) {
        for (int someDay = 0; someDay <= 5100; someDay++) {
            if (plan.blocks.get(block).low < heightOn(someDay)) {
                return someDay;
            }
        }
        return NONE;
    }

    private int turn(int block) {
        int ahead = 0;
        Part own = plan.blocks.get(block);
        for (Part part : plan.blocks) {
            if (part.low < own.low || part.low == own.low && part.left < own.left) {
                ahead++;
            }
        }
        return ahead;
    }

    private boolean isFree(int block, java.util.Set<Integer> taken) {
        if (taken.contains(block)) {
            return false;
        }
        for (int other = 0; other < blocks(); other++) {
            if (above(other, block) && !taken.contains(other)) {
                return false;
            }
        }
        return true;
    }

    private int pileOf(int block) {
        for (int pile = 0; pile < piles.size(); pile++) {
            if (piles.get(pile).contains(block)) {
                return pile;
            }
        }
        return NONE;
    }

    private int wide(Part part) {
        int sides = (part.left == 0 ? 0 : 1) + (part.left + part.columns == w ? 0 : 1);
        return 100 * part.columns * 2 - saw * sides;
    }

    int at(int column, int row) {
        for (int block = 0; block < blocks(); block++) {
            if (plan.blocks.get(block).has(column, row)) {
                return block;
            }
        }
        return NONE;
    }

    boolean above(int a, int b) {
        if (!isBlock(a) || !isBlock(b) || a == b) {
            return false;
        }
        for (int column = 0; column < w; column++) {
            for (int row = 0; row < h; row++) {
                if (plan.blocks.get(b).has(column, row) && plan.blocks.get(a).has(column, row + 1)) {
                    return true;
                }
            }
        }
        return false;
    }

    boolean river(int month, int height) {
        if (month < 0 || month > 11 || height < 0 || height > 9) {
            return false;
        }
        river[month] = height;
        return true;
    }

    int days(int n) {
        if (n < 1 || n > 100 || day + n > 5000) {
            return NONE;
        }
        day += n;
        return day;
    }

    int take(int block) {
        if (!isBlock(block) || !isFree(block, takenOn.keySet()) || day == 5000) {
            return NONE;
        }
        if (plan.blocks.get(block).low < heightOn(day)) {
            return NONE;
        }
        int best = NONE;
        for (int pile = 0; pile < piles.size(); pile++) {
            if (uppermostTurn(pile) > turn(block) && (best == NONE || uppermostTurn(pile) < uppermostTurn(best))) {
                best = pile;
            }
        }
        if (best == NONE) {
            best = piles.size();
            piles.add(new ArrayList<>());
        }
        piles.get(best).add(block);
        takenOn.put(block, day);
        day++;
        return best;
    }

    private int uppermostTurn(int pile) {
        List<Integer> blocks = piles.get(pile);
        return turn(blocks.get(blocks.size() - 1));
    }

    int order() {
        if (plan == null) {
            return NONE;
        }
        order.clear();
        java.util.Set<Integer> taken = new java.util.HashSet<>(takenOn.keySet());
        int[] press = new int[blocks()];
        for (int block = 0; block < blocks(); block++) {
            press[block] = press(block);
        }
        int late = 0;
        for (int today = day; taken.size() < blocks(); today++) {
            int next = NONE;
            for (int block = 0; block < blocks(); block++) {
                if (isFree(block, taken) && (next == NONE || press[block] < press[next])) {
                    next = block;
                }
            }
            order.add(next);
            taken.add(next);
            late += due(next) != NONE && today >= due(next) ? 1 : 0;
        }
        return late;
    }

    private int press(int block) {
        int least = due(block) == NONE ? 100000 : due(block);
        for (int other = 0; other < blocks(); other++) {
            if (above(block, other) && !takenOn.containsKey(other)) {
                least = Math.min(least, press(other) - 1);
            }
        }
        return least;
    }

    int ordered(int k) {
        return k < 0 || k >= order.size() ? NONE : order.get(k);
    }

    int piled(int pile, int k) {
        if (pile < 0 || pile >= piles.size() || k < 0 || k >= piles.get(pile).size()) {
            return NONE;
        }
        return piles.get(pile).get(k);
    }

    int sun(int someDay) {
        if (someDay < 0 || someDay > 364) {
            return -1000;
        }
        return Math.abs((4 * someDay) % 1460 - 730) - 365;
    }

    private boolean strikesOn(int someDay, int g, int n) {
        return Math.abs(sun(someDay) - g) <= n;
    }

    int strikes(int g, int n) {
        if (g < -400 || g > 400 || n < 0 || n > 400) {
            return NONE;
        }
        int days = 0;
        for (int someDay = 0; someDay < 365; someDay++) {
            days += strikesOn(someDay, g, n) ? 1 : 0;
        }
        return days;
    }

    int like(int g, int n, int m) {
        if (strikes(g, n) == NONE || strikes(g, m) == NONE) {
            return -1000;
        }
        int best = NONE;
        int fewest = 1000;
        for (int other = -400; other <= 400; other++) {
            int unlike = 0;
            for (int someDay = 0; someDay < 365; someDay++) {
                unlike += strikesOn(someDay, g, n) != strikesOn(someDay, other, m) ? 1 : 0;
            }
            if (unlike < fewest) {
                fewest = unlike;
                best = other;
            }
        }
        return best;
    }

    int count(int what) {
        return switch (what) {
            case 0 -> w;
            case 1 -> h;
            case 2 -> blocks();
            case 3 -> takenOn.size();
            case 4 -> plan == null ? 0 : plan.sawn;
            case 5 -> piles.size();
            case 6 -> day;
            case 7 -> weightOf(new Part(0, 0, w, h));
            case 8 -> limit;
            case 9 -> saw;
            case 10 -> order.size();
            default -> NONE;
        };
    }

    boolean image(int k) {
        if (k < 0 || k > 2) {
            return false;
        }
        images[k] = new Model();
        images[k].become(this);
        return true;
    }

    boolean again(int k) {
        if (k < 0 || k > 2 || images[k] == null) {
            return false;
        }
        become(images[k]);
        return true;
    }
}
