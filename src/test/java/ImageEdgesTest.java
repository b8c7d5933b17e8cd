/** Promises 20 to 22, the constants and the 512 calls: each sentence at its edges. */
public final class ImageEdgesTest {
    private static final Check CHECK = new Check();
    private static final int NONE = TempleRaised.NONE;
    private static final String[][] STATES = {
        States.NEW, States.BUSY, States.LARGEST, States.ALL_TAKEN, States.LAST_DAY,
    };
    private static final String[] NUMBERS_OF_NO_IMAGE = {"image(-1)", "image(3)", "image(MIN)", "image(MAX)"};
    private static final String[] AGAIN_OF_NO_IMAGE = {"again(-1)", "again(3)", "again(MIN)", "again(MAX)"};

    public static void main(String[] args) {
        leastCounts();
        greatestCounts();
        countsWithoutAPlan();
        noSuchCount();
        threeImages();
        noSuchImage();
        imageIsAllThatIsTold();
        imageStaysAsItWas();
        imageOfTheSameNumber();
        imageChangesNothingElse();
        noSuchImageToGoBackTo();
        otherImagesStay();
        againAndAgain();
        againOfNothingYet();
        manyCalls();
        constants();
        CHECK.end();
    }

    private static Sentence sentence(String sentence) {
        return new Sentence(CHECK, sentence);
    }

    /** Another state than any of STATES, in all that an image has; PILES as far as DAYS are left for them. */
    private static Sentence changeAll(Sentence then, boolean piles) {
        if (piles) {
            then.with("wall(8, 1)", "limit(10)", "plan()", "take(5)", "take(4)", "take(2)", "take(1)")
                    .with("take(6)", "take(7)", "take(3)", "take(0)", "days(9)");
        }
        then.with("wall(2, 3)", "cell(0, 0, 33, 7)", "cell(1, 0, 2, 7)", "motifs(2, 0x64000000)", "limit(35)", "saw(7)");
        for (int month = 0; month < 12; month++) {
            then.with("river(" + month + ", " + (month % 2 == 0 ? 0 : 9) + ")");
        }
        return then.with("plan()", "order()");
    }

    // Promise 20

    private static void leastCounts() {
        sentence("20: the least of each").with("wall(1, 1)", "cell(0, 0, 1, 0)", "limit(1)", "saw(1)")
                .row("count(", 1, 1, 0, 0, 0, 0, 0, 1, 1, 1, 0, NONE);
        sentence("20: the least of each with a PLAN").with("wall(1, 1)", "cell(0, 0, 1, 0)", "limit(1)", "plan()")
                .row("count(", 1, 1, 1, 0, 0, 0, 0, 1, 1, 1, 0, NONE);
    }

    private static void greatestCounts() {
        Sentence then = sentence("20: the greatest of each").with("wall(8, 8)");
        for (int cell = 0; cell < 64; cell++) {
            then.with("cell(" + cell / 8 + ", " + cell % 8 + ", 50, 0)");
        }
        then.with("limit(50)", "saw(9)").due("plan()", 64).due("order()", 0);
        for (int row = 7; row >= 0; row--) {
            for (int column = 0; column < 8; column++) {
                then.with("take(" + (8 * column + row) + ")");
            }
        }
        then.times(49, "days(100)").with("days(36)", "limit(3200)")
                .row("count(", 8, 8, 64, 64, 112, 8, 5000, 3200, 3200, 9, 64, NONE);
    }

    private static void countsWithoutAPlan() {
        sentence("20: 0 without a PLAN at hand").with("limit(9)").due("plan()", NONE)
                .row("count(", 4, 4, 0, 0, 0, 0, 0, 160, 9, 1, 0, NONE);
        sentence("20: 0 without a PLAN at hand any more").with(States.ALL_TAKEN).with("wall(8, 8)")
                .row("count(", 8, 8, 0, 0, 0, 0, 64, 640, 10, 1, 0, NONE);
    }

    private static void noSuchCount() {
        for (String[] state : STATES) {
            sentence("20: NONE for another what").with(state)
                    .refused("count(-1)", "count(11)", "count(12)", "count(MIN)", "count(MAX)");
        }
        sentence("20: asking changes nothing").with(States.BUSY).unchanged("count(0)", 3).unchanged("count(2)", 5)
                .unchanged("count(7)", 89).unchanged("count(10)", 5);
    }

    // Promise 21

    private static void threeImages() {
        for (int k = 0; k < 3; k++) {
            sentence("21: 0 .. 2").due("image(" + k + ")", true).with("days(9)").due("again(" + k + ")", true).due("count(6)", 0);
        }
        sentence("21: 0 .. 2, each of its own").due("image(0)", true).with("days(1)").due("image(1)", true).with("days(1)")
                .due("image(2)", true).with("days(1)").due("again(0)", true).due("count(6)", 0)
                .due("again(1)", true).due("count(6)", 1).due("again(2)", true).due("count(6)", 2);
    }

    private static void noSuchImage() {
        for (String[] state : STATES) {
            sentence("21: false for another k").with(state).refused(NUMBERS_OF_NO_IMAGE);
        }
        sentence("21: false for another k, with all images").with(States.BUSY).with("image(2)").refused(NUMBERS_OF_NO_IMAGE);
    }

    private static void imageIsAllThatIsTold() {
        for (String[] state : STATES) {
            for (int k = 0; k < 3; k++) {
                Sentence then = sentence("21: image " + k + " is all that is told").with(state).due("image(" + k + ")", true).mark();
                changeAll(then, state != States.LAST_DAY).due("again(" + k + ")", true).asMarked();
            }
        }
    }

    private static void imageStaysAsItWas() {
        sentence("21: as it is now, not as it is later").with(States.BUSY).due("image(0)", true).with("take(0)", "take(3)", "order()")
                .due("count(3)", 5).due("count(10)", 0).due("again(0)", true)
                .row("count(", 3, 3, 5, 3, 8, 2, 8, 89, 20, 3, 5).row("piled(0, ", 4, 1, NONE).row("piled(1, ", 2, NONE)
                .row("ordered(", 1, 2, 4, 0, 3, NONE).due("block(0, 7)", 0).due("block(0, 9)", NONE).due("block(0, 11)", NONE);
        sentence("21: as it is now, THE RIVER").with("limit(160)", "plan()", "river(11, 1)", "image(1)", "river(11, 0)", "river(0, 9)")
                .due("block(0, 5)", 0).due("again(1)", true).due("block(0, 5)", 330);
    }

    private static void imageOfTheSameNumber() {
        sentence("21: the last one of a number is the one").due("image(1)", true).with("days(3)").due("image(1)", true)
                .with("days(3)").due("again(1)", true).due("count(6)", 3);
        sentence("21: one of nothing over one of all").with(States.ALL_TAKEN).due("image(0)", true).with("wall(1, 1)")
                .due("image(0)", true).with("wall(8, 8)", "plan()").due("again(0)", true)
                .row("count(", 1, 1, 0, 0, 0, 0, 64, 10, 10, 1, 0).due("at(0, 0)", NONE).due("piled(0, 0)", NONE);
    }

    private static void imageChangesNothingElse() {
        sentence("21: what is told stays").with(States.BUSY).due("image(2)", true)
                .row("count(", 3, 3, 5, 3, 8, 2, 8, 89, 20, 3, 5).row("ordered(", 1, 2, 4, 0, 3, NONE)
                .row("piled(0, ", 4, 1, NONE).row("piled(1, ", 2, NONE).unchanged("image(2)", true);
        sentence("21: other images stay").with(States.BUSY).due("image(2)", true)
                .due("again(0)", true).row("count(", 3, 3, 0, 0, 0, 0, 0, 89, 20, 3, 0)
                .due("again(1)", true).row("count(", 3, 3, 5, 1, 8, 1, 1, 89, 20, 3, 5);
    }

    // Promise 22

    private static void noSuchImageToGoBackTo() {
        for (String[] state : STATES) {
            sentence("22: false, there is none such by its number").with(state).refused(AGAIN_OF_NO_IMAGE).refused("again(2)");
        }
        sentence("22: false, there is none yet").refused("again(0)", "again(1)", "again(2)")
                .with("image(1)", "days(1)").refused("again(0)", "again(2)").due("again(1)", true).due("count(6)", 0)
                .refused("again(0)", "again(2)");
        sentence("22: false, a refused image is none").due("image(3)", false).due("image(-1)", false)
                .refused("again(3)", "again(-1)", "again(0)", "again(2)");
    }

    private static void otherImagesStay() {
        sentence("22: other images stay").with(States.BUSY).with("image(2)").due("again(0)", true).due("count(2)", 0)
                .due("again(2)", true).mark().due("again(1)", true).due("again(0)", true).due("again(2)", true).asMarked()
                .row("count(", 3, 3, 5, 3, 8, 2, 8, 89, 20, 3, 5);
        sentence("22: an image of what again() brought").with("image(0)", "days(5)", "again(0)", "image(1)", "days(7)")
                .due("again(1)", true).due("count(6)", 0).with("days(2)", "image(0)").due("again(1)", true).due("count(6)", 0)
                .due("again(0)", true).due("count(6)", 2);
    }

    private static void againAndAgain() {
        Sentence then = sentence("22: as often as it is asked").with(States.BUSY).with("image(2)").mark();
        for (int k = 0; k < 3; k++) {
            changeAll(then, true).due("again(2)", true);
        }
        then.asMarked().unchanged("again(2)", true);
        sentence("22: what comes behind it is none of the image's").with("wall(2, 1)", "limit(10)", "plan()", "image(0)")
                .with("take(0)").due("again(0)", true).with("take(1)").due("block(0, 7)", 0).due("count(3)", 1)
                .due("again(0)", true).due("count(3)", 0).due("count(5)", 0).due("count(6)", 0);
    }

    private static void againOfNothingYet() {
        sentence("22: no PLAN, no PILES, no ORDER in the image").with("image(0)").with(States.ALL_TAKEN)
                .due("again(0)", true).row("count(", 4, 4, 0, 0, 0, 0, 0, 160, 40, 1, 0)
                .due("block(0, 0)", NONE).due("at(0, 0)", NONE).due("ordered(0)", NONE).due("piled(0, 0)", NONE)
                .due("take(0)", NONE).due("order()", NONE).due("plan()", 4);
        sentence("22: a PLAN without an ORDER in the image").with("plan()", "image(1)", "order()").due("count(10)", 4)
                .due("again(1)", true).due("count(10)", 0).due("ordered(0)", NONE);
        sentence("22: back from the last DAY").with("image(0)").with(States.LAST_DAY).due("again(0)", true)
                .due("count(6)", 0).due("days(1)", 1);
        sentence("22: on to the last DAY").with(States.LAST_DAY).with("image(0)", "again(0)").due("days(1)", NONE).due("take(0)", NONE);
    }

    // What it is, and the constants

    private static void manyCalls() {
        sentence("the 512th call is answered").with("wall(8, 8)", "limit(10)").times(509, "plan()").due("plan()", 64);
        Sentence images = sentence("the 512th call is answered, of images").with("image(0)");
        for (int k = 0; k < 170; k++) {
            images.with("image(" + k % 3 + ")", "plan()", "again(" + k % 3 + ")");
        }
        images.due("again(0)", true);
    }

    private static void constants() {
        CHECK.due("NONE", TempleRaised.NONE, -1);
    }
}
