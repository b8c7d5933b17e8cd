/** Promises 17 to 19, and what 'Terms' 4 says of THE SUN: each sentence at its edges. */
public final class SunEdgesTest {
    private static final Check CHECK = new Check();
    private static final int NONE = TempleRaised.NONE;
    private static final int NO_DIRECTION = -1000;

    public static void main(String[] args) {
        firstAndLastDay();
        highestAndLowest();
        noSuchDay();
        atMostApart();
        farthestPlaces();
        widestPlaces();
        noSuchPlaceForStrikes();
        likeItself();
        likeAtTheEnds();
        leastOfSeveral();
        fewestDays();
        noSuchPlaceForLike();
        likeByAllDays();
        stateIsNoneOfTheSuns();
        CHECK.end();
    }

    private static Sentence sentence(String sentence) {
        return new Sentence(CHECK, sentence);
    }

    // Promise 17

    private static void firstAndLastDay() {
        sentence("17: DAY d of a year, 0 .. 364").due("sun(0)", 365).due("sun(1)", 361).due("sun(363)", 357).due("sun(364)", 361);
        Sentence all = sentence("17: each DAY of a year");
        for (int day = 0; day <= 364; day++) {
            all.due("sun(" + day + ")", day <= 182 ? 365 - 4 * day : 4 * day - 1095);
        }
    }

    private static void highestAndLowest() {
        sentence("17: how far it is from 730, on both sides").due("sun(91)", 1).due("sun(92)", -3)
                .due("sun(181)", -359).due("sun(182)", -363).due("sun(183)", -363).due("sun(184)", -359)
                .due("sun(273)", -3).due("sun(274)", 1);
    }

    private static void noSuchDay() {
        String[] wrong = {"sun(-1)", "sun(365)", "sun(366)", "sun(730)", "sun(-365)", "sun(MIN)", "sun(MAX)"};
        for (String call : wrong) {
            sentence("17: -1000, there is none such").unchanged(call, NO_DIRECTION);
            sentence("17: -1000, there is none such, among all").with(States.BUSY).unchanged(call, NO_DIRECTION);
        }
    }

    // Promise 18

    private static void atMostApart() {
        sentence("18: at most n apart, n is 0").due("strikes(365, 0)", 1).due("strikes(364, 0)", 0).due("strikes(366, 0)", 0)
                .due("strikes(-363, 0)", 2).due("strikes(-364, 0)", 0).due("strikes(-362, 0)", 0)
                .due("strikes(361, 0)", 2).due("strikes(1, 0)", 2).due("strikes(0, 0)", 0).due("strikes(2, 0)", 0);
        sentence("18: at most n apart, on either side").due("strikes(361, 3)", 2).due("strikes(361, 4)", 5)
                .due("strikes(-363, 3)", 2).due("strikes(-363, 4)", 4).due("strikes(-359, 3)", 2).due("strikes(-359, 4)", 6)
                .due("strikes(0, 1)", 2).due("strikes(0, 2)", 2).due("strikes(0, 3)", 4).due("strikes(0, 4)", 4)
                .due("strikes(0, 5)", 6);
    }

    private static void farthestPlaces() {
        sentence("18: g is 400").due("strikes(400, 34)", 0).due("strikes(400, 35)", 1).due("strikes(400, 38)", 1)
                .due("strikes(400, 39)", 3).due("strikes(400, 0)", 0).due("strikes(400, 400)", 183);
        sentence("18: g is -400").due("strikes(-400, 36)", 0).due("strikes(-400, 37)", 2).due("strikes(-400, 40)", 2)
                .due("strikes(-400, 41)", 4).due("strikes(-400, 0)", 0).due("strikes(-400, 400)", 182);
        sentence("18: beside the least and the greatest DIRECTION").due("strikes(366, 1)", 1).due("strikes(367, 1)", 0)
                .due("strikes(-364, 1)", 2).due("strikes(-365, 1)", 0).due("strikes(-365, 2)", 2);
    }

    private static void widestPlaces() {
        sentence("18: n is 400").due("strikes(0, 400)", 365).due("strikes(-35, 400)", 365).due("strikes(-36, 400)", 364)
                .due("strikes(37, 400)", 365).due("strikes(38, 400)", 363).due("strikes(0, 399)", 365);
        sentence("18: all DAYS but some").due("strikes(1, 364)", 365).due("strikes(1, 363)", 362)
                .due("strikes(0, 365)", 365).due("strikes(0, 364)", 364).due("strikes(0, 363)", 364).due("strikes(0, 362)", 362);
    }

    private static void noSuchPlaceForStrikes() {
        String[] wrong = {
            "strikes(-401, 0)", "strikes(401, 0)", "strikes(0, -1)", "strikes(0, 401)", "strikes(MIN, 0)", "strikes(MAX, 0)",
            "strikes(0, MIN)", "strikes(0, MAX)", "strikes(-401, 400)", "strikes(401, 400)", "strikes(400, 401)",
            "strikes(-400, -1)", "strikes(MIN, MAX)", "strikes(MAX, MIN)", "strikes(MAX, MAX)", "strikes(MIN, MIN)",
        };
        sentence("18: NONE, g is not -400 .. 400, n is not 0 .. 400").refused(wrong);
        sentence("18: NONE, among all").with(States.BUSY).refused(wrong);
    }

    // Promise 19

    private static void likeItself() {
        sentence("19: the same DAYS by the same n").due("like(365, 0, 0)", 365).due("like(361, 0, 0)", 361)
                .due("like(-363, 0, 0)", -363).due("like(1, 0, 0)", 1);
        sentence("19: the place itself would do").due("like(400, 35, 35)", 397).due("like(-400, 37, 37)", -400);
    }

    private static void likeAtTheEnds() {
        // Only at 400 does a place so wide have day 0 alone; only at -400 the two lowest days alone.
        sentence("19: g from -400 to 400, the last one").due("like(365, 0, 38)", 400).due("like(365, 0, 37)", 399)
                .due("like(365, 0, 39)", 397);
        sentence("19: g from -400 to 400, the first one").due("like(-363, 0, 40)", -400).due("like(-363, 0, 37)", -400)
                .due("like(-363, 0, 36)", -399).due("like(-363, 0, 41)", -400);
    }

    private static void leastOfSeveral() {
        sentence("19: of several the least, no DAY strikes").due("like(400, 0, 0)", -400).due("like(-400, 0, 0)", -400)
                .due("like(364, 0, 0)", -400).due("like(-400, 36, 36)", -400).due("like(400, 34, 34)", -400)
                .due("like(0, 0, 0)", -400);
        sentence("19: of several the least, all DAYS strike").due("like(0, 400, 400)", -35).due("like(0, 365, 365)", 0)
                .due("like(0, 400, 364)", 1).due("like(37, 400, 400)", -35);
        sentence("19: of several the least, some DAYS strike").due("like(-363, 0, 2)", -365).due("like(-363, 0, 3)", -366)
                .due("like(365, 0, 3)", 365).due("like(365, 0, 2)", 364).due("like(1, 4, 8)", -2);
    }

    private static void fewestDays() {
        sentence("19: the fewest DAYS, if none is alike").due("like(0, 400, 363)", -2).due("like(0, 400, 0)", -363)
                .due("like(400, 400, 0)", 1).due("like(-400, 400, 0)", -363);
        sentence("19: n is the old place's, m the new one's").due("like(1, 0, 400)", 398).due("like(1, 400, 0)", -363);
    }

    private static void noSuchPlaceForLike() {
        String[] wrong = {
            "like(-401, 0, 0)", "like(401, 0, 0)", "like(MIN, 0, 0)", "like(MAX, 0, 0)", "like(0, -1, 0)", "like(0, 401, 0)",
            "like(0, MIN, 0)", "like(0, MAX, 0)", "like(0, 0, -1)", "like(0, 0, 401)", "like(0, 0, MIN)", "like(0, 0, MAX)",
            "like(401, 401, 401)", "like(-401, -1, -1)", "like(400, 400, 401)", "like(-400, 401, 400)", "like(MAX, MAX, MAX)",
        };
        for (String call : wrong) {
            sentence("19: -1000, others than in strikes()").unchanged(call, NO_DIRECTION);
            sentence("19: -1000, others than in strikes(), among all").with(States.BUSY).unchanged(call, NO_DIRECTION);
        }
    }

    /** The edges of g, n and m together, against a model that goes through all places and all DAYS. */
    private static void likeByAllDays() {
        int[] directions = {-400, -364, -363, -362, 0, 1, 364, 365, 366, 400};
        int[] open = {0, 1, 2, 3, 4, 35, 37, 38, 363, 364, 365, 400};
        Model model = new Model();
        for (int g : directions) {
            Sentence then = sentence("19: by all DAYS");
            for (int n : open) {
                then.due("strikes(" + g + ", " + n + ")", model.strikes(g, n));
                for (int m : open) {
                    then.due("like(" + g + ", " + n + ", " + m + ")", model.like(g, n, m));
                }
            }
        }
    }

    private static void stateIsNoneOfTheSuns() {
        sentence("17 to 19: asking changes nothing").with(States.BUSY).unchanged("sun(0)", 365).unchanged("strikes(0, 400)", 365)
                .unchanged("like(365, 0, 0)", 365);
        sentence("17 to 19: on the last DAY").with(States.LAST_DAY).due("sun(364)", 361).due("strikes(365, 0)", 1)
                .due("like(400, 0, 0)", -400);
        sentence("17 to 19: of the largest WALL, all TAKEN").with(States.ALL_TAKEN).due("sun(364)", 361)
                .due("strikes(365, 0)", 1).due("like(400, 0, 0)", -400);
    }
}
