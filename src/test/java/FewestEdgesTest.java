/** Promise 16, fewest: its boundary cases, one test each. */
final class FewestEdgesTest {
    public static void main(String[] args) {
        Edges edges = new Edges("16 fewest");
        edges.edge("all BALANCES are 0: none", FewestEdgesTest::none);
        edges.edge("a BALANCE that isn't 0: those with 0 need none", FewestEdgesTest::zerosStayOut);
        edges.edge("the least GROUP: two, one payment", FewestEdgesTest::two);
        edges.edge("the greatest GROUP: eight, seven payments", FewestEdgesTest::eight);
        edges.edge("the most GROUPS: four, four payments", FewestEdgesTest::fourGroups);
        edges.edge("one payment less than it has COMPANIES", FewestEdgesTest::oneLess);
        edges.edge("as many GROUPS as can be, though one goes first for less",
                FewestEdgesTest::asManyAsCanBe);
        edges.edge("two GROUPS of four", FewestEdgesTest::twoOfFour);
        edges.edge("GROUPS of three and five", FewestEdgesTest::threeAndFive);
        edges.edge("all of one sign but one", FewestEdgesTest::oneAgainstAll);
        edges.edge("charges for DAYS count", FewestEdgesTest::charges);
        edges.edge("the greatest BALANCES", FewestEdgesTest::greatest);
        edges.end();
    }

    private static void fewest(Check check, int want, int... balances) {
        WagonClearing x = Accounts.with(balances);
        check.due("fewest()", x.fewest(), want);
        check.due("fewest() again", x.fewest(), want);
    }

    private static void none(Check check) {
        check.due("fewest() of a new object", new WagonClearing().fewest(), 0);
        WagonClearing x = new WagonClearing();
        x.line(0, 1, 0, 1);
        x.line(1, 2, 1, 1);
        x.book(0, 1, 5, 1);
        x.book(1, 2, 5, 0);
        check.due("fewest() of paid and paid back", x.fewest(), 0);
        x.book(0, 1, 5, 0);
        check.due("fewest() of one's own", x.fewest(), 0);
    }

    private static void zerosStayOut(Check check) {
        fewest(check, 1, 0, 5, 0, 0, 0, 0, -5, 0);
        fewest(check, 2, 0, 5, 0, 0, 2, 0, -7, 0);
    }

    private static void two(Check check) {
        fewest(check, 1, 1, -1);
        fewest(check, 1, -1, 0, 0, 0, 0, 0, 0, 1);
    }

    private static void eight(Check check) {
        fewest(check, 7, 1, 2, 4, 8, 16, 32, 64, -127);
        fewest(check, 7, -127, 1, 2, 4, 8, 16, 32, 64);
    }

    private static void fourGroups(Check check) {
        fewest(check, 4, 1, 10, 100, 1000, -1000, -100, -10, -1);
        fewest(check, 4, 5, 5, 5, 5, -5, -5, -5, -5);
    }

    private static void oneLess(Check check) {
        fewest(check, 2, 1, 2, -3);
        fewest(check, 3, 1, 2, 4, -7);
        fewest(check, 4, 1, 2, 4, 8, -15);
        fewest(check, 5, 1, 2, 4, 8, 16, -31);
        fewest(check, 6, 1, 2, 4, 8, 16, 32, -63);
    }

    // 5 could be paid by -2 and -3 at once, but then 2 and 3 have only -5 left: two groups, not three.
    private static void asManyAsCanBe(Check check) {
        fewest(check, 3, 5, -2, -3, -5, 2, 3);
        fewest(check, 3, -5, 2, 3, 5, -2, -3);
    }

    private static void twoOfFour(Check check) {
        fewest(check, 6, 1, 2, 4, -7, 100, 200, 400, -700);
        fewest(check, 6, 1, 100, 2, 200, 4, 400, -7, -700);
    }

    private static void threeAndFive(Check check) {
        fewest(check, 6, 1, 2, -3, 10, 20, 40, 80, -150);
        fewest(check, 6, 10, 1, 20, 2, 40, -3, 80, -150);
    }

    private static void oneAgainstAll(Check check) {
        fewest(check, 7, 1, 1, 1, 1, 1, 1, 1, -7);
        fewest(check, 7, -1, -1, -1, 7, -1, -1, -1, -1);
    }

    private static void charges(Check check) {
        WagonClearing x = new WagonClearing();
        x.wagon(12345, 0);
        x.see(12345, 0, 0, 1);
        x.see(12345, 0, 2, 2);
        check.due("fewest() of free days", x.fewest(), 0);
        x.see(12345, 0, 5, 3);
        check.due("fewest() of one day charged", x.fewest(), 1);
        x.see(12345, 0, 9, 3);
        check.due("fewest() of two that owe", x.fewest(), 2);
        x.terms(2, 0);
        check.due("fewest() at price 0", x.fewest(), 0);
    }

    private static void greatest(Check check) {
        WagonClearing x = new WagonClearing();
        x.line(0, 1, 0, 10);
        x.line(1, 2, 1, 10);
        for (int i = 0; i < 250; i++) {
            x.book(0, 1, 1000000, 2);
            x.book(1, 2, 1000000, 3);
        }
        check.due("fewest()", x.fewest(), 2);
        check.due("group(0)", x.group(0), 5);
        check.due("group(1)", x.group(1), 10);
        // 15 times 65536 each, so that what is cut to fewer bits would be 0.
        WagonClearing y = new WagonClearing();
        y.line(0, 1, 0, 10);
        y.line(1, 2, 1, 10);
        for (int i = 0; i < 250; i++) {
            y.book(0, 1, 983040, 2);
            y.book(1, 2, i < 200 ? 983040 : 0, i < 50 ? 2 : 3);
        }
        check.due("fewest() of one group", y.fewest(), 3);
        check.due("group(3)", y.group(3), 15);
    }
}
