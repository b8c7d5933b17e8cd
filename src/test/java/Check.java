/** Counts and prints the answers that are not as due, and ends the test. */
final class Check {
    private static final int PRINTED = 50;

    private int asked;
    private int wrong;

    void due(String call, long got, long want) {
        asked++;
        if (got != want) {
            wrong++;
            if (wrong <= PRINTED) {
                System.out.println(call + " answered " + got + ", due is " + want);
            }
        }
    }

    void due(String call, boolean got, boolean want) {
        due(call, got ? 1 : 0, want ? 1 : 0);
    }

    void end() {
        System.out.println(asked + " answers, " + wrong + " of them not as due");
        if (wrong != 0 || asked == 0) {
            System.exit(1);
        }
    }
}
