/** Promise 2, line: its boundary cases, one test each. */
final class LineEdgesTest {
    public static void main(String[] args) {
        Edges edges = new Edges("2 line");
        edges.edge("numbers as they come", LineEdgesTest::numbers);
        edges.edge("a refused LINE takes no number", LineEdgesTest::refusedTakesNoNumber);
        edges.edge("no such JUNCTION a: too small", LineEdgesTest::firstTooSmall);
        edges.edge("no such JUNCTION a: too large", LineEdgesTest::firstTooLarge);
        edges.edge("no such JUNCTION b: too small", LineEdgesTest::secondTooSmall);
        edges.edge("no such JUNCTION b: too large", LineEdgesTest::secondTooLarge);
        edges.edge("JUNCTIONS 0 and 11 are such", LineEdgesTest::outermostJunctions);
        edges.edge("no such COMPANY: too small", LineEdgesTest::companyTooSmall);
        edges.edge("no such COMPANY: too large", LineEdgesTest::companyTooLarge);
        edges.edge("COMPANIES 0 and 7 are such", LineEdgesTest::outermostCompanies);
        edges.edge("both are one", LineEdgesTest::bothAreOne);
        edges.edge("MILES can't be: too small", LineEdgesTest::milesTooSmall);
        edges.edge("MILES can't be: too large", LineEdgesTest::milesTooLarge);
        edges.edge("MILES 1 can be", LineEdgesTest::leastMiles);
        edges.edge("MILES 200 can be", LineEdgesTest::mostMiles);
        edges.edge("the 24th comes", LineEdgesTest::lastOneComes);
        edges.edge("24 came", LineEdgesTest::full);
        edges.edge("two LINES may have the same JUNCTIONS", LineEdgesTest::sameJunctions);
        edges.end();
    }

    private static void refused(Check check, int a, int b, int company, int miles) {
        WagonClearing x = new WagonClearing();
        String call = "line(" + a + ", " + b + ", " + company + ", " + miles + ")";
        check.due(call, x.line(a, b, company, miles), -1);
        check.due(call + ", then count(0)", x.count(0), 0);
    }

    private static void comes(Check check, int a, int b, int company, int miles) {
        WagonClearing x = new WagonClearing();
        String call = "line(" + a + ", " + b + ", " + company + ", " + miles + ")";
        check.due(call, x.line(a, b, company, miles), 0);
        check.due(call + ", then count(0)", x.count(0), 1);
        check.due(call + ", then least", x.least(a, b), miles);
        check.due(call + ", then least back", x.least(b, a), miles);
        check.due(call + ", then its company's part", x.part(a, b, 100, company), 100);
    }

    private static void numbers(Check check) {
        WagonClearing x = new WagonClearing();
        for (int i = 0; i < 24; i++) {
            check.due("line " + i, x.line(11 - i % 11, 0, i % 8, 200 - i), i);
        }
    }

    private static void refusedTakesNoNumber(Check check) {
        WagonClearing x = new WagonClearing();
        x.line(0, 1, 0, 5);
        x.line(1, 2, 0, 201);
        x.line(1, 1, 0, 5);
        check.due("the number behind two refused ones", x.line(1, 2, 0, 5), 1);
        check.due("count(0)", x.count(0), 2);
    }

    private static void firstTooSmall(Check check) {
        for (int w : Wrong.below(0)) {
            refused(check, w, 1, 0, 5);
        }
    }

    private static void firstTooLarge(Check check) {
        for (int w : Wrong.above(11)) {
            refused(check, w, 1, 0, 5);
        }
    }

    private static void secondTooSmall(Check check) {
        for (int w : Wrong.below(0)) {
            refused(check, 1, w, 0, 5);
        }
    }

    private static void secondTooLarge(Check check) {
        for (int w : Wrong.above(11)) {
            refused(check, 1, w, 0, 5);
        }
    }

    private static void outermostJunctions(Check check) {
        comes(check, 0, 11, 3, 5);
        comes(check, 11, 0, 3, 5);
    }

    private static void companyTooSmall(Check check) {
        for (int w : Wrong.below(0)) {
            refused(check, 0, 1, w, 5);
        }
    }

    private static void companyTooLarge(Check check) {
        for (int w : Wrong.above(7)) {
            refused(check, 0, 1, w, 5);
        }
    }

    private static void outermostCompanies(Check check) {
        comes(check, 0, 1, 0, 5);
        comes(check, 0, 1, 7, 5);
    }

    private static void bothAreOne(Check check) {
        for (int junction = 0; junction < 12; junction++) {
            refused(check, junction, junction, 0, 5);
        }
    }

    private static void milesTooSmall(Check check) {
        for (int w : Wrong.below(1)) {
            refused(check, 0, 1, 0, w);
        }
    }

    private static void milesTooLarge(Check check) {
        for (int w : Wrong.above(200)) {
            refused(check, 0, 1, 0, w);
        }
    }

    private static void leastMiles(Check check) {
        comes(check, 0, 1, 0, 1);
    }

    private static void mostMiles(Check check) {
        comes(check, 0, 1, 0, 200);
    }

    private static WagonClearing withLines(int many) {
        WagonClearing x = new WagonClearing();
        for (int i = 0; i < many; i++) {
            x.line(0, 1, 0, 100);
        }
        return x;
    }

    private static void lastOneComes(Check check) {
        WagonClearing x = withLines(23);
        check.due("the 24th line", x.line(0, 1, 6, 99), 23);
        check.due("count(0)", x.count(0), 24);
        check.due("least(0, 1) by it", x.least(0, 1), 99);
        check.due("route(0, 1) by it", x.route(0, 1), 23);
        check.due("part of its company", x.part(0, 1, 100, 6), 100);
    }

    private static void full(Check check) {
        WagonClearing x = withLines(24);
        check.due("a 25th line", x.line(0, 1, 0, 1), -1);
        check.due("a 26th line", x.line(2, 3, 0, 1), -1);
        check.due("count(0)", x.count(0), 24);
        check.due("least(0, 1)", x.least(0, 1), 100);
        check.due("least(2, 3)", x.least(2, 3), -1);
    }

    private static void sameJunctions(Check check) {
        WagonClearing x = new WagonClearing();
        check.due("line(3, 4, 1, 7)", x.line(3, 4, 1, 7), 0);
        check.due("the very same", x.line(3, 4, 1, 7), 1);
        check.due("turned about", x.line(4, 3, 2, 6), 2);
        check.due("count(0)", x.count(0), 3);
    }
}
