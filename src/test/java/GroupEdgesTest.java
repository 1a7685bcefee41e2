/** Promise 17, group: its boundary cases, one test each. */
final class GroupEdgesTest {
    public static void main(String[] args) {
        Edges edges = new Edges("17 group");
        edges.edge("none such: too small", GroupEdgesTest::tooSmall);
        edges.edge("none such: too large", GroupEdgesTest::tooLarge);
        edges.edge("none such: numbers whose bit wraps round", GroupEdgesTest::wrapsRound);
        edges.edge("0 if its BALANCE is 0", GroupEdgesTest::balanceOfNothing);
        edges.edge("all BALANCES are 0", GroupEdgesTest::none);
        edges.edge("the least and the greatest COMPANY: bits 1 and 128", GroupEdgesTest::outermostBits);
        edges.edge("all eight: 255", GroupEdgesTest::allEight);
        edges.edge("as many GROUPS as can be goes before the least number", GroupEdgesTest::mostFirst);
        edges.edge("the GROUP of the least COMPANY is the least as a number",
                GroupEdgesTest::leastNumber);
        edges.edge("the least COMPANY's first, though another GROUP were a lesser number",
                GroupEdgesTest::leastCompanyFirst);
        edges.edge("least as a number: three low bits before two high ones",
                GroupEdgesTest::threeBeforeTwo);
        edges.edge("then that of the least one that is left", GroupEdgesTest::thenTheNext);
        edges.edge("the least COMPANY may be a later one", GroupEdgesTest::firstOnesAreZero);
        edges.edge("all of one GROUP have the same answer", GroupEdgesTest::sameAnswer);
        edges.end();
    }

    private static void groups(Check check, WagonClearing x, int... want) {
        for (int company = 0; company < 8; company++) {
            int due = company < want.length ? want[company] : 0;
            check.due("group(" + company + ")", x.group(company), due);
        }
    }

    private static void tooSmall(Check check) {
        WagonClearing x = Accounts.with(1, 2, 4, 8, 16, 32, 64, -127);
        for (int w : Wrong.below(0)) {
            check.due("group(" + w + ")", x.group(w), 0);
        }
    }

    private static void tooLarge(Check check) {
        WagonClearing x = Accounts.with(1, 2, 4, 8, 16, 32, 64, -127);
        for (int w : Wrong.above(7)) {
            check.due("group(" + w + ")", x.group(w), 0);
        }
    }

    private static void wrapsRound(Check check) {
        WagonClearing x = Accounts.with(1, 2, 4, 8, 16, 32, 64, -127);
        int[] wrong = {32, 33, 39, 64, 256, -32, -31, -25, Integer.MIN_VALUE};
        for (int w : wrong) {
            check.due("group(" + w + ")", x.group(w), 0);
        }
    }

    private static void balanceOfNothing(Check check) {
        groups(check, Accounts.with(0, 5, 0, 0, -5), 0, 18, 0, 0, 18);
        // Paid and paid back.
        WagonClearing x = Accounts.with(5, -5);
        groups(check, x, 3, 3);
        x.book(1, 2, 5, 0);
        groups(check, x);
    }

    private static void none(Check check) {
        groups(check, new WagonClearing());
    }

    private static void outermostBits(Check check) {
        groups(check, Accounts.with(5, 0, 0, 0, 0, 0, 0, -5), 129, 0, 0, 0, 0, 0, 0, 129);
    }

    private static void allEight(Check check) {
        groups(check, Accounts.with(1, 2, 4, 8, 16, 32, 64, -127),
                255, 255, 255, 255, 255, 255, 255, 255);
    }

    // {0, 1, 2} is 7 and less than {0, 5}, 33; but then there are two groups, not three.
    private static void mostFirst(Check check) {
        groups(check, Accounts.with(-5, 2, 3, -2, -3, 5), 33, 10, 20, 10, 20, 33);
    }

    private static void leastNumber(Check check) {
        groups(check, Accounts.with(-5, 0, 0, 5, 5, 0, 0, -5), 9, 0, 0, 9, 144, 0, 0, 144);
        groups(check, Accounts.with(5, 5, -5, -5, 5, -5), 5, 10, 5, 10, 48, 48);
    }

    // Two groups either way: {0, 1, 3} and {2, 4}, 11 and 20; or {1, 2} and {0, 3, 4}, 6 and 25.
    private static void leastCompanyFirst(Check check) {
        groups(check, Accounts.with(1, 2, -2, -3, 2), 11, 11, 20, 11, 20);
    }

    // Two groups either way: {0, 1, 2} is 7, {0, 3} is 9.
    private static void threeBeforeTwo(Check check) {
        groups(check, Accounts.with(-5, 2, 3, 5, 0, -5), 7, 7, 7, 40, 0, 40);
    }

    // Of 1, 2, 3, 4, when {0, 5} is out: 1 with 3 (10) or with 4 (18).
    private static void thenTheNext(Check check) {
        groups(check, Accounts.with(9, 4, 4, -4, -4, -9), 33, 10, 20, 10, 20, 33);
        // {1, 2, 3} is 14 and less than {1, 4}, 18, with as many groups.
        groups(check, Accounts.with(9, -5, 2, 3, 5, -5, -9), 65, 14, 14, 14, 48, 48, 65);
    }

    private static void firstOnesAreZero(Check check) {
        groups(check, Accounts.with(0, 0, 0, 3, 3, -3, -3), 0, 0, 0, 40, 80, 40, 80);
        groups(check, Accounts.with(0, 0, 0, 0, 0, 0, 1, -1), 0, 0, 0, 0, 0, 0, 192, 192);
    }

    private static void sameAnswer(Check check) {
        WagonClearing x = Accounts.with(1, 100, 2, 200, 4, 400, -7, -700);
        groups(check, x, 85, 170, 85, 170, 85, 170, 85, 170);
    }
}
