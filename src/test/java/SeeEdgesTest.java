/** Promise 8, see: its boundary cases, one test each. */
final class SeeEdgesTest {
    public static void main(String[] args) {
        Edges edges = new Edges("8 see");
        edges.edge("numbers as they come", SeeEdgesTest::numbers);
        edges.edge("a refused SIGHT takes no number", SeeEdgesTest::refusedTakesNoNumber);
        edges.edge("MARK can't be: too small", SeeEdgesTest::markTooSmall);
        edges.edge("MARK can't be: too large", SeeEdgesTest::markTooLarge);
        edges.edge("MARKS 10000 and 99999 can be", SeeEdgesTest::outermostMarks);
        edges.edge("MARK of no WAGON, and twice the same, can be", SeeEdgesTest::anyMark);
        edges.edge("JUNCTION can't be: too small", SeeEdgesTest::junctionTooSmall);
        edges.edge("JUNCTION can't be: too large", SeeEdgesTest::junctionTooLarge);
        edges.edge("JUNCTIONS 0 and 11 can be", SeeEdgesTest::outermostJunctions);
        edges.edge("DAY can't be: too small", SeeEdgesTest::dayTooSmall);
        edges.edge("DAY can't be: too large", SeeEdgesTest::dayTooLarge);
        edges.edge("DAYS 0 and 999 can be", SeeEdgesTest::outermostDays);
        edges.edge("COMPANY can't be: too small", SeeEdgesTest::companyTooSmall);
        edges.edge("COMPANY can't be: too large", SeeEdgesTest::companyTooLarge);
        edges.edge("COMPANIES 0 and 7 can be", SeeEdgesTest::outermostCompanies);
        edges.edge("the DAY is below that of the latest one", SeeEdgesTest::dayFalls);
        edges.edge("the same DAY doesn't fall", SeeEdgesTest::sameDay);
        edges.edge("a refused SIGHT's DAY is not the latest one", SeeEdgesTest::refusedDay);
        edges.edge("with no SIGHT any DAY can be: after close", SeeEdgesTest::dayAfterClose);
        edges.edge("7 came", SeeEdgesTest::full);
        edges.edge("7 more can come when they went", SeeEdgesTest::fullAgain);
        edges.end();
    }

    private static void refused(Check check, int mark, int junction, int day, int company) {
        WagonClearing x = new WagonClearing();
        String call = "see(" + mark + ", " + junction + ", " + day + ", " + company + ")";
        check.due(call, x.see(mark, junction, day, company), -1);
        check.due(call + ", then count(2)", x.count(2), 0);
        check.due(call + ", then cost()", x.cost(), 0);
    }

    private static void comes(Check check, int mark, int junction, int day, int company) {
        WagonClearing x = new WagonClearing();
        String call = "see(" + mark + ", " + junction + ", " + day + ", " + company + ")";
        check.due(call, x.see(mark, junction, day, company), 0);
        check.due(call + ", then count(2)", x.count(2), 1);
    }

    private static void numbers(Check check) {
        WagonClearing x = new WagonClearing();
        for (int i = 0; i < 7; i++) {
            check.due("see " + i, x.see(99999 - i, i, 2 * i, i), i);
            check.due("count(2)", x.count(2), i + 1);
        }
    }

    private static void refusedTakesNoNumber(Check check) {
        WagonClearing x = new WagonClearing();
        x.see(12345, 0, 5, 0);
        x.see(9999, 0, 5, 0);
        x.see(12345, 12, 5, 0);
        x.see(12345, 0, 4, 0);
        x.see(12345, 0, 5, 8);
        check.due("the number behind four refused ones", x.see(12345, 0, 5, 0), 1);
    }

    private static void markTooSmall(Check check) {
        refused(check, 0, 0, 0, 0);
        refused(check, -12345, 0, 0, 0);
        for (int w : Wrong.below(10000)) {
            refused(check, w, 0, 0, 0);
        }
    }

    private static void markTooLarge(Check check) {
        for (int w : Wrong.above(99999)) {
            refused(check, w, 0, 0, 0);
        }
    }

    private static void outermostMarks(Check check) {
        comes(check, 10000, 0, 0, 0);
        comes(check, 99999, 0, 0, 0);
    }

    private static void anyMark(Check check) {
        WagonClearing x = new WagonClearing();
        x.wagon(12345, 0);
        check.due("see(67890, 0, 0, 0)", x.see(67890, 0, 0, 0), 0);
        check.due("see(67890, 0, 0, 0), again", x.see(67890, 0, 0, 0), 1);
        check.due("see(12345, 0, 0, 0)", x.see(12345, 0, 0, 0), 2);
    }

    private static void junctionTooSmall(Check check) {
        for (int w : Wrong.below(0)) {
            refused(check, 12345, w, 0, 0);
        }
    }

    private static void junctionTooLarge(Check check) {
        for (int w : Wrong.above(11)) {
            refused(check, 12345, w, 0, 0);
        }
    }

    private static void outermostJunctions(Check check) {
        comes(check, 12345, 0, 0, 0);
        comes(check, 12345, 11, 0, 0);
    }

    private static void dayTooSmall(Check check) {
        for (int w : Wrong.below(0)) {
            refused(check, 12345, 0, w, 0);
        }
    }

    private static void dayTooLarge(Check check) {
        for (int w : Wrong.above(999)) {
            refused(check, 12345, 0, w, 0);
        }
    }

    private static void outermostDays(Check check) {
        comes(check, 12345, 0, 0, 0);
        comes(check, 12345, 0, 999, 0);
    }

    private static void companyTooSmall(Check check) {
        for (int w : Wrong.below(0)) {
            refused(check, 12345, 0, 0, w);
        }
    }

    private static void companyTooLarge(Check check) {
        for (int w : Wrong.above(7)) {
            refused(check, 12345, 0, 0, w);
        }
    }

    private static void outermostCompanies(Check check) {
        comes(check, 12345, 0, 0, 0);
        comes(check, 12345, 0, 0, 7);
    }

    private static void dayFalls(Check check) {
        WagonClearing x = new WagonClearing();
        x.see(12345, 0, 5, 0);
        x.see(67890, 1, 8, 1);
        check.due("day 7 after 8, of another mark", x.see(12345, 0, 7, 0), -1);
        check.due("day 0 after 8", x.see(12345, 0, 0, 0), -1);
        check.due("count(2)", x.count(2), 2);
    }

    private static void sameDay(Check check) {
        WagonClearing x = new WagonClearing();
        for (int i = 0; i < 3; i++) {
            check.due("see on day 0", x.see(12345, 0, 0, 0), i);
        }
        for (int i = 3; i < 7; i++) {
            check.due("see on day 999", x.see(12345, 0, 999, 0), i);
        }
    }

    private static void refusedDay(Check check) {
        WagonClearing x = new WagonClearing();
        x.see(12345, 0, 5, 0);
        x.see(12345, 0, 900, 8);
        x.see(12345, 12, 900, 0);
        x.see(9999, 0, 900, 0);
        x.see(12345, 0, 1000, 0);
        check.due("day 5 after refused ones of day 900", x.see(12345, 0, 5, 0), 1);
        WagonClearing y = new WagonClearing();
        y.see(12345, 0, 5, 0);
        y.see(12345, 0, 3, 0);
        check.due("day 4 after a refused one of day 3", y.see(12345, 0, 4, 0), -1);
    }

    private static void dayAfterClose(Check check) {
        WagonClearing x = new WagonClearing();
        x.see(12345, 0, 999, 0);
        check.due("day 0 before close", x.see(12345, 0, 0, 0), -1);
        x.close();
        check.due("day 0 after close", x.see(12345, 0, 0, 0), 0);
    }

    private static WagonClearing withSights(int many) {
        WagonClearing x = new WagonClearing();
        for (int i = 0; i < many; i++) {
            x.see(12345, 0, 5, 0);
        }
        return x;
    }

    private static void full(Check check) {
        WagonClearing x = withSights(6);
        check.due("the seventh", x.see(12345, 0, 5, 0), 6);
        check.due("an eighth", x.see(12345, 0, 5, 0), -1);
        check.due("another, of a later day", x.see(12345, 0, 6, 0), -1);
        check.due("count(2)", x.count(2), 7);
        check.due("cost(), no wagon", x.cost(), 21);
    }

    private static void fullAgain(Check check) {
        WagonClearing x = withSights(7);
        x.close();
        for (int i = 0; i < 7; i++) {
            check.due("see after close", x.see(12345, 0, 1, 0), i);
        }
        check.due("an eighth after close", x.see(12345, 0, 1, 0), -1);
    }
}
