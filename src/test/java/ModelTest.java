import java.util.Random;

/** Long runs of calls, the same on TempleRaised and on Model: every answer and all that can be seen. */
public final class ModelTest {
    private static final int RUNS = 240;
    private static final int CALLS = 150;
    // So much of a run's calls is left for questions.
    private static final int MOST_MADE = 400;

    private final Check check;
    private final Random random;
    private final Run run = new Run();
    private final Model model = new Model();
    private Call last = new Call("");

    private ModelTest(Check check, int seed) {
        this.check = check;
        this.random = new Random(seed);
    }

    public static void main(String[] args) {
        Check check = new Check();
        for (int seed = 0; seed < RUNS; seed++) {
            new ModelTest(check, seed).run();
        }
        smallWalls(check);
        fullestWall(check);
        sunOfAllPlaces(check);
        check.end();
    }

    private void run() {
        // Some runs come to the last day of all.
        int late = random.nextInt(6) == 0 ? 49 : 0;
        for (int k = 0; k < late; k++) {
            make(model.days(100), "days", 100);
        }
        for (int call = 0; call < CALLS && run.length() < MOST_MADE; call++) {
            change();
            look();
        }
    }

    private int any(int least, int most) {
        return least + random.nextInt(most - least + 1);
    }

    /** Mostly what the document allows, now and then one beyond it. */
    private int about(int least, int most) {
        int chance = random.nextInt(40);
        if (chance == 0) {
            return least - 1;
        }
        return chance == 1 ? most + 1 : any(least, most);
    }

    private void make(int want, String name, int... numbers) {
        last = new Call(name, numbers);
        check.due(last.toString(), run.make(last), want);
    }

    private void make(boolean want, String name, int... numbers) {
        make(want ? 1 : 0, name, numbers);
    }

    private void ask(int want, String name, int... numbers) {
        Call call = new Call(name, numbers);
        int got = run.ask(call);
        check.due(got == want ? "" : "behind " + last + ": " + call, got, want);
    }

    private void ask(boolean want, String name, int... numbers) {
        ask(want ? 1 : 0, name, numbers);
    }

    private void change() {
        int kind = random.nextInt(100);
        if (kind < 3) {
            newWall();
        } else if (kind < 7) {
            carve();
        } else if (kind < 12) {
            newLimit();
        } else if (kind < 14) {
            int saw = about(1, 9);
            make(model.saw(saw), "saw", saw);
        } else if (kind < 24) {
            make(model.plan(), "plan");
        } else if (kind < 30) {
            int month = about(0, 11);
            int height = about(0, 9);
            make(model.river(month, height), "river", month, height);
        } else if (kind < 35) {
            int n = random.nextBoolean() ? about(1, 100) : any(1, 5);
            make(model.days(n), "days", n);
        } else if (kind < 45) {
            make(model.order(), "order");
        } else if (kind < 88) {
            takeOne();
        } else if (kind < 92) {
            int k = about(0, 2);
            make(model.image(k), "image", k);
        } else if (kind < 95) {
            int k = about(0, 2);
            make(model.again(k), "again", k);
        } else {
            askSun();
        }
    }

    private void newWall() {
        int most = random.nextInt(4) == 0 ? 8 : 5;
        int w = about(1, most);
        int h = about(1, most);
        make(model.wall(w, h), "wall", w, h);
        int cells = any(0, 30);
        for (int k = 0; k < cells; k++) {
            carve();
        }
        newLimit();
    }

    private void carve() {
        int row = about(0, model.count(1) - 1);
        if (random.nextInt(4) == 0) {
            int eight = 0;
            for (int column = 0; column < 8; column++) {
                int motif = random.nextInt(5) < 3 ? 0 : any(1, random.nextInt(30) == 0 ? 10 : 9);
                eight = eight << 4 | motif;
            }
            make(model.motifs(row, eight), "motifs", row, eight);
            return;
        }
        int column = about(0, model.count(0) - 1);
        int weight = random.nextBoolean() ? about(1, 50) : any(8, 12);
        int motif = random.nextInt(3) == 0 ? any(1, 2) : random.nextInt(10) == 0 ? about(0, 9) : 0;
        make(model.cell(column, row, weight, motif), "cell", column, row, weight, motif);
    }

    private void newLimit() {
        int limit = random.nextInt(8) == 0 ? about(1, 3200) : any(10, Math.max(10, model.count(7)));
        make(model.limit(limit), "limit", limit);
    }

    private void takeOne() {
        int block = about(0, Math.max(0, model.count(2) - 1));
        // Now and then what the order says, so that runs get to the lowest blocks.
        if (model.count(10) > 0 && random.nextBoolean()) {
            block = model.ordered(Math.min(model.count(3), model.count(10) - 1));
        }
        make(model.take(block), "take", block);
    }

    private void askSun() {
        int day = about(0, 364);
        int g = about(-400, 400);
        int n = random.nextBoolean() ? about(0, 400) : any(0, 30);
        int m = random.nextBoolean() ? about(0, 400) : any(0, 30);
        ask(model.sun(day), "sun", day);
        ask(model.strikes(g, n), "strikes", g, n);
        if (random.nextInt(8) == 0) {
            ask(model.like(g, n, m), "like", g, n, m);
        }
    }

    private void look() {
        for (int what = -1; what <= 11; what++) {
            ask(model.count(what), "count", what);
        }
        int block = any(-1, model.count(2));
        for (int what = -1; what <= 12; what++) {
            ask(model.block(block, what), "block", block, what);
        }
        for (int other = -1; other <= model.count(2); other++) {
            ask(model.above(other, block), "above", other, block);
            ask(model.ordered(other), "ordered", other);
        }
        int column = any(-1, model.count(0));
        for (int row = -1; row <= model.count(1); row++) {
            ask(model.at(column, row), "at", column, row);
        }
        int pile = any(-1, model.count(5));
        for (int k = -1; k <= model.count(3); k++) {
            ask(model.piled(pile, k), "piled", pile, k);
        }
    }

    /** Walls so small that Model goes through every plan there is. */
    private static void smallWalls(Check check) {
        Random random = new Random(7);
        for (int n = 0; n < 1500; n++) {
            TempleRaised x = new TempleRaised();
            Model model = new Model();
            int w = 1 + random.nextInt(4);
            int h = 1 + random.nextInt(3);
            x.wall(w, h);
            model.wall(w, h);
            int motifs = 1 + random.nextInt(4);
            for (int column = 0; column < w; column++) {
                for (int row = 0; row < h; row++) {
                    int weight = 1 + random.nextInt(n % 2 == 0 ? 50 : 3);
                    int motif = random.nextInt(3) == 0 ? random.nextInt(motifs) : 0;
                    x.cell(column, row, weight, motif);
                    model.cell(column, row, weight, motif);
                }
            }
            int limit = 1 + random.nextInt(x.count(7));
            x.limit(limit);
            model.limit(limit);
            check.due("small wall " + n + ": plan()", x.plan(), model.plan());
            check.due("small wall " + n + ": count(4)", x.count(4), model.count(4));
            for (int block = 0; block < model.count(2); block++) {
                for (int what = 0; what <= 6; what++) {
                    check.due("small wall " + n + ": block(" + block + ", " + what + ")",
                            x.block(block, what), model.block(block, what));
                }
            }
        }
    }

    /** As many blocks as there can be, taken to the last one: all rows inside are full then. */
    private static void fullestWall(Check check) {
        for (int w = 1; w <= 8; w++) {
            ModelTest test = new ModelTest(check, w);
            test.make(test.model.wall(w, 8), "wall", w, 8);
            test.make(test.model.limit(10), "limit", 10);
            test.make(test.model.plan(), "plan");
            test.make(test.model.river(1, w), "river", 1, w);
            for (int k = 0; k < 8 * w; k++) {
                int block = test.random.nextInt(8 * w);
                test.make(test.model.take(block), "take", block);
                test.look();
            }
            test.make(test.model.river(1, 0), "river", 1, 0);
            while (test.model.count(3) < 8 * w) {
                test.make(test.model.order(), "order");
                int next = test.model.ordered(0);
                test.make(test.model.take(next), "take", next);
                test.look();
            }
        }
    }

    private static void sunOfAllPlaces(Check check) {
        Model model = new Model();
        for (int g = -401; g <= 401; g++) {
            TempleRaised x = new TempleRaised();
            for (int n = -1; n <= 401; n += n < 40 ? 1 : 19) {
                check.due("strikes(" + g + ", " + n + ")", x.strikes(g, n), model.strikes(g, n));
            }
        }
    }
}
