/** Promise 3, least: its boundary cases, one test each. */
final class LeastEdgesTest {
    public static void main(String[] args) {
        Edges edges = new Edges("3 least");
        edges.edge("0 of one and itself", LeastEdgesTest::itself);
        edges.edge("no such JUNCTION a: too small", LeastEdgesTest::firstTooSmall);
        edges.edge("no such JUNCTION a: too large", LeastEdgesTest::firstTooLarge);
        edges.edge("no such JUNCTION b: too small", LeastEdgesTest::secondTooSmall);
        edges.edge("no such JUNCTION b: too large", LeastEdgesTest::secondTooLarge);
        edges.edge("no such JUNCTION and itself", LeastEdgesTest::wrongAndItself);
        edges.edge("no way", LeastEdgesTest::noWay);
        edges.edge("no way until a LINE joins the two", LeastEdgesTest::waysJoin);
        edges.edge("the least sum: 1", LeastEdgesTest::leastSum);
        edges.edge("the greatest sum: 11 LINES of 200", LeastEdgesTest::greatestSum);
        edges.edge("by many short LINES, not one long one", LeastEdgesTest::manyShortOnes);
        edges.edge("of two LINES the shorter one, whichever came first", LeastEdgesTest::shorterOne);
        edges.edge("JUNCTIONS 0 and 11", LeastEdgesTest::outermostJunctions);
        edges.end();
    }

    /** All junctions in a ring, so that every wrong number would fall onto a way. */
    private static WagonClearing ring() {
        WagonClearing x = new WagonClearing();
        for (int i = 0; i < 12; i++) {
            x.line(i, (i + 1) % 12, i % 8, 10);
        }
        return x;
    }

    private static void itself(Check check) {
        WagonClearing x = new WagonClearing();
        WagonClearing y = ring();
        for (int junction = 0; junction < 12; junction++) {
            check.due("least without lines", x.least(junction, junction), 0);
            check.due("least with lines", y.least(junction, junction), 0);
        }
    }

    private static void all(Check check, int[] wrong, boolean first) {
        WagonClearing x = ring();
        for (int w : wrong) {
            for (int junction = 0; junction < 12; junction++) {
                int a = first ? w : junction;
                int b = first ? junction : w;
                check.due("least(" + a + ", " + b + ")", x.least(a, b), -1);
            }
        }
    }

    private static void firstTooSmall(Check check) {
        all(check, Wrong.below(0), true);
    }

    private static void firstTooLarge(Check check) {
        all(check, Wrong.above(11), true);
    }

    private static void secondTooSmall(Check check) {
        all(check, Wrong.below(0), false);
    }

    private static void secondTooLarge(Check check) {
        all(check, Wrong.above(11), false);
    }

    private static void wrongAndItself(Check check) {
        WagonClearing x = ring();
        for (int w : Wrong.outside(0, 11)) {
            check.due("least(" + w + ", " + w + ")", x.least(w, w), -1);
        }
    }

    private static void noWay(Check check) {
        WagonClearing x = new WagonClearing();
        x.line(0, 1, 0, 200);
        x.line(2, 3, 0, 200);
        check.due("least(0, 2)", x.least(0, 2), -1);
        check.due("least(3, 1)", x.least(3, 1), -1);
        check.due("least(0, 11), without any line", x.least(0, 11), -1);
        check.due("least(11, 10), both without any line", x.least(11, 10), -1);
        check.due("least(0, 1)", x.least(0, 1), 200);
    }

    private static void waysJoin(Check check) {
        WagonClearing x = new WagonClearing();
        x.line(0, 1, 0, 20);
        x.line(2, 3, 0, 30);
        check.due("least(0, 3) before", x.least(0, 3), -1);
        x.line(2, 1, 0, 5);
        check.due("least(0, 3)", x.least(0, 3), 55);
        check.due("least(3, 0)", x.least(3, 0), 55);
        check.due("least(0, 2)", x.least(0, 2), 25);
        check.due("least(3, 1)", x.least(3, 1), 35);
    }

    private static void leastSum(Check check) {
        WagonClearing x = new WagonClearing();
        x.line(4, 5, 0, 1);
        check.due("least(4, 5)", x.least(4, 5), 1);
        check.due("least(5, 4)", x.least(5, 4), 1);
    }

    private static void greatestSum(Check check) {
        WagonClearing x = new WagonClearing();
        for (int i = 0; i < 11; i++) {
            x.line(i, i + 1, 0, 200);
        }
        check.due("least(0, 11)", x.least(0, 11), 2200);
        check.due("least(11, 0)", x.least(11, 0), 2200);
    }

    private static void manyShortOnes(Check check) {
        WagonClearing x = new WagonClearing();
        x.line(0, 11, 0, 12);
        check.due("least(0, 11) by one", x.least(0, 11), 12);
        for (int i = 0; i < 11; i++) {
            x.line(i, i + 1, 0, 1);
        }
        check.due("least(0, 11) by eleven", x.least(0, 11), 11);
        check.due("least(0, 10)", x.least(0, 10), 10);
    }

    private static void shorterOne(Check check) {
        WagonClearing x = new WagonClearing();
        x.line(0, 1, 0, 8);
        x.line(0, 1, 0, 9);
        check.due("the first one is shorter", x.least(0, 1), 8);
        x.line(1, 0, 0, 7);
        check.due("the last one is shorter", x.least(0, 1), 7);
    }

    private static void outermostJunctions(Check check) {
        WagonClearing x = ring();
        check.due("least(0, 11)", x.least(0, 11), 10);
        check.due("least(11, 0)", x.least(11, 0), 10);
        check.due("least(0, 6)", x.least(0, 6), 60);
        check.due("least(11, 5)", x.least(11, 5), 60);
    }
}
