/** Counts and prints the answers that are not as due; a test ends with it. */
final class Check {
    private int looked = 0;
    private int wrong = 0;

    void due(String call, long got, long want) {
        looked++;
        if (got != want) {
            wrong++;
            System.out.println(call + " answered " + got + ", due is " + want);
        }
    }

    void due(String call, boolean got, boolean want) {
        due(call, got ? 1 : 0, want ? 1 : 0);
    }

    boolean holds() {
        return wrong == 0 && looked > 0;
    }

    void end() {
        System.out.println((looked - wrong) + " passed, " + wrong + " failed");
        if (!holds()) {
            System.exit(1);
        }
    }
}
