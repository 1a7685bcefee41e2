/** Promise 18, empties: its boundary cases, one test each. */
final class EmptiesEdgesTest {
    public static void main(String[] args) {
        Edges edges = new Edges("18 empties");
        edges.edge("none such: JUNCTION too small", EmptiesEdgesTest::junctionTooSmall);
        edges.edge("none such: JUNCTION too large", EmptiesEdgesTest::junctionTooLarge);
        edges.edge("JUNCTIONS 0 and 11 are such", EmptiesEdgesTest::outermostJunctions);
        edges.edge("EMPTIES can't be: too few", EmptiesEdgesTest::tooFewThere);
        edges.edge("EMPTIES can't be: too many", EmptiesEdgesTest::tooManyThere);
        edges.edge("EMPTIES 0 and 9 can be", EmptiesEdgesTest::outermostThere);
        edges.edge("WANTED can't be: too few", EmptiesEdgesTest::tooFewWanted);
        edges.edge("WANTED can't be: too many", EmptiesEdgesTest::tooManyWanted);
        edges.edge("WANTED 0 and 9 can be", EmptiesEdgesTest::outermostWanted);
        edges.edge("good EMPTIES with wrong WANTED change neither", EmptiesEdgesTest::goodThere);
        edges.edge("good WANTED with wrong EMPTIES change neither", EmptiesEdgesTest::goodWanted);
        edges.edge("so many are there: what was told before is gone", EmptiesEdgesTest::toldAgain);
        edges.edge("all JUNCTIONS full", EmptiesEdgesTest::allFull);
        edges.edge("a JUNCTION without LINES can have them", EmptiesEdgesTest::withoutLines);
        edges.end();
    }

    private static void counts(Check check, WagonClearing x, int there, int wanted) {
        check.due("count(4)", x.count(4), there);
        check.due("count(5)", x.count(5), wanted);
    }

    private static void refused(Check check, int junction, int there, int wanted) {
        WagonClearing x = new WagonClearing();
        x.empties(0, 3, 2);
        String call = "empties(" + junction + ", " + there + ", " + wanted + ")";
        check.due(call, x.empties(junction, there, wanted), false);
        counts(check, x, 3, 2);
        check.due(call + ", then met()", x.met(), 2);
    }

    private static void taken(Check check, int junction, int there, int wanted) {
        WagonClearing x = new WagonClearing();
        String call = "empties(" + junction + ", " + there + ", " + wanted + ")";
        check.due(call, x.empties(junction, there, wanted), true);
        counts(check, x, there, wanted);
        check.due(call + ", then met()", x.met(), Math.min(there, wanted));
    }

    private static void junctionTooSmall(Check check) {
        for (int w : Wrong.below(0)) {
            refused(check, w, 1, 1);
        }
    }

    private static void junctionTooLarge(Check check) {
        for (int w : Wrong.above(11)) {
            refused(check, w, 1, 1);
        }
    }

    private static void outermostJunctions(Check check) {
        taken(check, 0, 4, 5);
        taken(check, 11, 4, 5);
    }

    private static void tooFewThere(Check check) {
        for (int w : Wrong.below(0)) {
            refused(check, 0, w, 2);
        }
    }

    private static void tooManyThere(Check check) {
        for (int w : Wrong.above(9)) {
            refused(check, 0, w, 2);
        }
    }

    private static void outermostThere(Check check) {
        taken(check, 5, 0, 4);
        taken(check, 5, 9, 4);
    }

    private static void tooFewWanted(Check check) {
        for (int w : Wrong.below(0)) {
            refused(check, 0, 3, w);
        }
    }

    private static void tooManyWanted(Check check) {
        for (int w : Wrong.above(9)) {
            refused(check, 0, 3, w);
        }
    }

    private static void outermostWanted(Check check) {
        taken(check, 5, 4, 0);
        taken(check, 5, 4, 9);
    }

    private static void goodThere(Check check) {
        refused(check, 0, 7, -1);
        refused(check, 0, 7, 10);
    }

    private static void goodWanted(Check check) {
        refused(check, 0, -1, 7);
        refused(check, 0, 10, 7);
    }

    private static void toldAgain(Check check) {
        WagonClearing x = new WagonClearing();
        x.empties(3, 9, 8);
        x.empties(4, 1, 1);
        counts(check, x, 10, 9);
        check.due("empties(3, 2, 5)", x.empties(3, 2, 5), true);
        counts(check, x, 3, 6);
        check.due("met()", x.met(), 3);
        check.due("empties(3, 0, 0)", x.empties(3, 0, 0), true);
        counts(check, x, 1, 1);
        check.due("met()", x.met(), 1);
    }

    private static void allFull(Check check) {
        WagonClearing x = new WagonClearing();
        for (int junction = 0; junction < 12; junction++) {
            check.due("empties", x.empties(junction, 9, 9), true);
        }
        counts(check, x, 108, 108);
        check.due("met()", x.met(), 108);
        check.due("led()", x.led(), 0);
    }

    private static void withoutLines(Check check) {
        WagonClearing x = new WagonClearing();
        x.line(0, 1, 0, 10);
        check.due("empties(7, 2, 3)", x.empties(7, 2, 3), true);
        check.due("met()", x.met(), 2);
    }
}
