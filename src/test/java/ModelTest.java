import java.util.Random;

/** Long runs of calls, the same on TempleRaised and on Model: every answer and all that can be seen. */
public final class ModelTest {
    private static final int RUNS = 240;
    private static final int CALLS = 150;

    private final Check check;
    private final Random random;
    private final TempleRaised x = new TempleRaised();
    private final Model model = new Model();
    private String last = "";

    private ModelTest(Check check, int seed) {
        this.check = check;
        this.random = new Random(seed);
    }

    public static void main(String[] args) {
        Check check = new Check();
        for (int seed = 0; seed < RUNS; seed++) {
            new ModelTest(check, seed).run();
        }
        smallWalls(check);
        fullestWall(check);
        sunOfAllPlaces(check);
        check.end();
    }

    private void run() {
        // Some runs come to the last day of all.
        int late = random.nextInt(6) == 0 ? 49 : 0;
        for (int k = 0; k < late; k++) {
            due("days(100)", x.days(100), model.days(100));
        }
        for (int call = 0; call < CALLS; call++) {
            change();
            look();
        }
    }

    private int any(int least, int most) {
        return least + random.nextInt(most - least + 1);
    }

    /** Mostly what the document allows, now and then one beyond it. */
    private int about(int least, int most) {
        int chance = random.nextInt(40);
        if (chance == 0) {
            return least - 1;
        }
        return chance == 1 ? most + 1 : any(least, most);
    }

    private void due(String call, int got, int want) {
        last = call;
        check.due(call, got, want);
    }

    private void due(String call, boolean got, boolean want) {
        due(call, got ? 1 : 0, want ? 1 : 0);
    }

    private void change() {
        int kind = random.nextInt(100);
        if (kind < 3) {
            newWall();
        } else if (kind < 7) {
            carve();
        } else if (kind < 12) {
            newLimit();
        } else if (kind < 14) {
            int saw = about(1, 9);
            due("saw(" + saw + ")", x.saw(saw), model.saw(saw));
        } else if (kind < 24) {
            due("plan()", x.plan(), model.plan());
        } else if (kind < 30) {
            int month = about(0, 11);
            int height = about(0, 9);
            due("river(" + month + ", " + height + ")", x.river(month, height), model.river(month, height));
        } else if (kind < 35) {
            int n = random.nextBoolean() ? about(1, 100) : any(1, 5);
            due("days(" + n + ")", x.days(n), model.days(n));
        } else if (kind < 45) {
            due("order()", x.order(), model.order());
        } else if (kind < 88) {
            takeOne();
        } else if (kind < 92) {
            int k = about(0, 2);
            due("image(" + k + ")", x.image(k), model.image(k));
        } else if (kind < 95) {
            int k = about(0, 2);
            due("again(" + k + ")", x.again(k), model.again(k));
        } else {
            askSun();
        }
    }

    private void newWall() {
        int most = random.nextInt(4) == 0 ? 8 : 5;
        int w = about(1, most);
        int h = about(1, most);
        due("wall(" + w + ", " + h + ")", x.wall(w, h), model.wall(w, h));
        int cells = any(0, 30);
        for (int k = 0; k < cells; k++) {
            carve();
        }
        newLimit();
    }

    private void carve() {
        int row = about(0, x.count(1) - 1);
        if (random.nextInt(4) == 0) {
            int eight = 0;
            for (int column = 0; column < 8; column++) {
                int motif = random.nextInt(5) < 3 ? 0 : any(1, random.nextInt(30) == 0 ? 10 : 9);
                eight = eight << 4 | motif;
            }
            due("motifs(" + row + ", " + eight + ")", x.motifs(row, eight), model.motifs(row, eight));
            return;
        }
        int column = about(0, x.count(0) - 1);
        int weight = random.nextBoolean() ? about(1, 50) : any(8, 12);
        int motif = random.nextInt(3) == 0 ? any(1, 2) : random.nextInt(10) == 0 ? about(0, 9) : 0;
        due("cell(" + column + ", " + row + ", " + weight + ", " + motif + ")",
                x.cell(column, row, weight, motif), model.cell(column, row, weight, motif));
    }

    private void newLimit() {
        int limit = random.nextInt(8) == 0 ? about(1, 3200) : any(10, Math.max(10, x.count(7)));
        due("limit(" + limit + ")", x.limit(limit), model.limit(limit));
    }

    private void takeOne() {
        int block = about(0, Math.max(0, x.count(2) - 1));
        // Now and then what the order says, so that runs get to the lowest blocks.
        if (x.count(10) > 0 && random.nextBoolean()) {
            block = x.ordered(Math.min(x.count(3), x.count(10) - 1));
        }
        due("take(" + block + ")", x.take(block), model.take(block));
    }

    private void askSun() {
        int day = about(0, 364);
        int g = about(-400, 400);
        int n = random.nextBoolean() ? about(0, 400) : any(0, 30);
        int m = random.nextBoolean() ? about(0, 400) : any(0, 30);
        due("sun(" + day + ")", x.sun(day), model.sun(day));
        due("strikes(" + g + ", " + n + ")", x.strikes(g, n), model.strikes(g, n));
        if (random.nextInt(8) == 0) {
            due("like(" + g + ", " + n + ", " + m + ")", x.like(g, n, m), model.like(g, n, m));
        }
    }

    private void look() {
        String when = "behind " + last + ": ";
        for (int what = -1; what <= 11; what++) {
            check.due(when + "count(" + what + ")", x.count(what), model.count(what));
        }
        int block = any(-1, model.count(2));
        for (int what = -1; what <= 12; what++) {
            check.due(when + "block(" + block + ", " + what + ")", x.block(block, what), model.block(block, what));
        }
        for (int other = -1; other <= model.count(2); other++) {
            check.due(when + "above(" + other + ", " + block + ")", x.above(other, block), model.above(other, block));
            check.due(when + "ordered(" + other + ")", x.ordered(other), model.ordered(other));
        }
        int column = any(-1, model.count(0));
        for (int row = -1; row <= model.count(1); row++) {
            check.due(when + "at(" + column + ", " + row + ")", x.at(column, row), model.at(column, row));
        }
        int pile = any(-1, model.count(5));
        for (int k = -1; k <= model.count(3); k++) {
            check.due(when + "piled(" + pile + ", " + k + ")", x.piled(pile, k), model.piled(pile, k));
        }
    }

    /** Walls so small that Model goes through every plan there is. */
    private static void smallWalls(Check check) {
        Random random = new Random(7);
        for (int n = 0; n < 1500; n++) {
            TempleRaised x = new TempleRaised();
            Model model = new Model();
            int w = 1 + random.nextInt(4);
            int h = 1 + random.nextInt(3);
            x.wall(w, h);
            model.wall(w, h);
            int motifs = 1 + random.nextInt(4);
            for (int column = 0; column < w; column++) {
                for (int row = 0; row < h; row++) {
                    int weight = 1 + random.nextInt(n % 2 == 0 ? 50 : 3);
                    int motif = random.nextInt(3) == 0 ? random.nextInt(motifs) : 0;
                    x.cell(column, row, weight, motif);
                    model.cell(column, row, weight, motif);
                }
            }
            int limit = 1 + random.nextInt(x.count(7));
            x.limit(limit);
            model.limit(limit);
            check.due("small wall " + n + ": plan()", x.plan(), model.plan());
            check.due("small wall " + n + ": count(4)", x.count(4), model.count(4));
            for (int block = 0; block < model.count(2); block++) {
                for (int what = 0; what <= 6; what++) {
                    check.due("small wall " + n + ": block(" + block + ", " + what + ")",
                            x.block(block, what), model.block(block, what));
                }
            }
        }
    }

    /** As many blocks as there can be, taken to the last one: all rows inside are full then. */
    private static void fullestWall(Check check) {
        for (int w = 1; w <= 8; w++) {
            ModelTest test = new ModelTest(check, w);
            test.due("wall", test.x.wall(w, 8), test.model.wall(w, 8));
            test.due("limit", test.x.limit(10), test.model.limit(10));
            test.due("plan", test.x.plan(), test.model.plan());
            test.due("river", test.x.river(1, w), test.model.river(1, w));
            for (int k = 0; k < 8 * w; k++) {
                int block = test.random.nextInt(8 * w);
                test.due("take", test.x.take(block), test.model.take(block));
                test.look();
            }
            while (test.model.count(3) < 8 * w) {
                test.due("order", test.x.order(), test.model.order());
                int next = test.model.ordered(0);
                test.due("river", test.x.river(1, 0), test.model.river(1, 0));
                test.due("take", test.x.take(next), test.model.take(next));
                test.look();
            }
        }
    }

    private static void sunOfAllPlaces(Check check) {
        TempleRaised x = new TempleRaised();
        Model model = new Model();
        for (int g = -401; g <= 401; g++) {
            for (int n = -1; n <= 401; n += n < 40 ? 1 : 19) {
                check.due("strikes(" + g + ", " + n + ")", x.strikes(g, n), model.strikes(g, n));
            }
        }
    }
}
