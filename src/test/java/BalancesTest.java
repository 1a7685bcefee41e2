/** Promises 15, 16 and 17: balance, fewest, group. */
final class BalancesTest {
    public static void main(String[] args) {
        Check check = new Check();
        balancesAddUpToNothing(check);
        pairs(check);
        leastGroupFirst(check);
        moreGroupsBeforeLesserOnes(check);
        chargesCount(check);
        wrongCompanies(check);
        check.end();
    }

    /** An object whose line from i to i + 1 is company i's, so that a booking pays just one. */
    private static WagonClearing chain() {
        WagonClearing x = new WagonClearing();
        for (int company = 0; company < 8; company++) {
            x.line(company, company + 1, company, 10);
        }
        return x;
    }

    private static void pay(WagonClearing x, int from, int to, int sum) {
        x.book(to, to + 1, sum, from);
    }

    private static void groups(Check check, WagonClearing x, int fewest, int... want) {
        check.due("fewest()", x.fewest(), fewest);
        for (int company = 0; company < 8; company++) {
            int due = company < want.length ? want[company] : 0;
            check.due("group(" + company + ")", x.group(company), due);
        }
    }

    private static void balancesAddUpToNothing(Check check) {
        WagonClearing x = chain();
        for (int i = 0; i < 20; i++) {
            x.book(i % 4, 4 + i % 5, 100003 + 77 * i, i % 8);
            int all = 0;
            for (int company = 0; company < 8; company++) {
                all += x.balance(company);
            }
            check.due("all balances", all, 0);
        }
        WagonClearing y = chain();
        pay(y, 3, 5, 40);
        pay(y, 5, 3, 40);
        check.due("balance(3) paid and paid back", y.balance(3), 0);
        groups(check, y, 0);
    }

    private static void pairs(Check check) {
        WagonClearing x = chain();
        pay(x, 0, 7, 5);
        groups(check, x, 1, 129, 0, 0, 0, 0, 0, 0, 129);
        pay(x, 6, 1, 6);
        groups(check, x, 2, 129, 66, 0, 0, 0, 0, 66, 129);
        pay(x, 2, 5, 7);
        pay(x, 4, 3, 8);
        groups(check, x, 4, 129, 66, 36, 24, 24, 36, 66, 129);
    }

    // All owe or are owed the same, so any giver can go with any taker.
    private static void leastGroupFirst(Check check) {
        WagonClearing x = chain();
        pay(x, 0, 4, 9);
        pay(x, 1, 5, 9);
        pay(x, 2, 6, 9);
        pay(x, 3, 7, 9);
        groups(check, x, 4, 17, 34, 68, 136, 17, 34, 68, 136);
        WagonClearing y = chain();
        pay(y, 0, 7, 9);
        pay(y, 6, 2, 9);
        groups(check, y, 2, 5, 0, 5, 0, 0, 0, 192, 192);
    }

    // 0: -5, 1: 2, 2: 3, 3: 5, 4: -2, 5: -3: {0, 1, 2} is less than {0, 3}, and makes two groups.
    private static void moreGroupsBeforeLesserOnes(Check check) {
        WagonClearing x = chain();
        pay(x, 0, 3, 5);
        pay(x, 4, 1, 2);
        pay(x, 5, 2, 3);
        groups(check, x, 3, 9, 18, 36, 9, 18, 36);
        WagonClearing y = chain();
        pay(y, 0, 1, 2);
        pay(y, 0, 2, 3);
        pay(y, 6, 3, 5);
        pay(y, 7, 4, 1);
        // 0: -5, 1: 2, 2: 3, 3: 5, 4: 1, 6: -5, 7: -1.
        groups(check, y, 4, 7, 7, 7, 72, 144, 0, 72, 144);
    }

    private static void chargesCount(Check check) {
        WagonClearing x = chain();
        x.wagon(12345, 2);
        x.see(12345, 0, 0, 6);
        x.see(12345, 0, 12, 6);
        groups(check, x, 1, 0, 0, 68, 0, 0, 0, 68);
        pay(x, 2, 6, 100);
        groups(check, x, 0);
        x.terms(2, 9);
        check.due("balance(2)", x.balance(2), -10);
        check.due("balance(6)", x.balance(6), 10);
        groups(check, x, 1, 0, 0, 68, 0, 0, 0, 68);
        x.close();
        check.due("balance(2) after close", x.balance(2), -10);
    }

    private static void wrongCompanies(Check check) {
        WagonClearing x = chain();
        pay(x, 0, 7, 5);
        int[] wrong = {-1, 8, 31, 32, 39, -25, Integer.MIN_VALUE, Integer.MAX_VALUE};
        for (int w : wrong) {
            check.due("balance(" + w + ")", x.balance(w), 0);
            check.due("group(" + w + ")", x.group(w), 0);
        }
    }
}
