/** Boundary cases: each has words of the document, and a test of its own that runs by itself. */
final class Edges {
    /** What is looked at for one boundary case, on objects of its own. */
    interface Look {
        void at(Check check);
    }

    private final String promise;
    private int run = 0;
    private int failed = 0;

    Edges(String promise) {
        this.promise = promise;
    }

    void edge(String words, Look look) {
        run++;
        Check check = new Check();
        boolean ended = false;
        // One case that the machine ends must not hide the others.
        try {
            look.at(check);
            ended = true;
        } catch (RuntimeException | StackOverflowError thrown) {
            System.out.println("thrown: " + thrown);
        }
        if (!ended || !check.holds()) {
            failed++;
            System.out.println("EDGE FAILED: " + promise + ": " + words);
        }
    }

    void end() {
        System.out.println((run - failed) + " boundary cases hold, " + failed + " do not");
        if (failed != 0 || run == 0) {
            System.exit(1);
        }
    }
}
