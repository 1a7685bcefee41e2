/** Promise 15, balance: its boundary cases, one test each. */
final class BalanceEdgesTest {
    public static void main(String[] args) {
        Edges edges = new Edges("15 balance");
        edges.edge("none such: too small", BalanceEdgesTest::tooSmall);
        edges.edge("none such: too large", BalanceEdgesTest::tooLarge);
        edges.edge("COMPANIES 0 and 7", BalanceEdgesTest::outermost);
        edges.edge("nothing BOOKED: 0", BalanceEdgesTest::nothing);
        edges.edge("the PARTS of all others: the taker's own is not owed", BalanceEdgesTest::ownPart);
        edges.edge("one that has all PARTS and takes them", BalanceEdgesTest::allOwn);
        edges.edge("one that takes and has no PART", BalanceEdgesTest::noPart);
        edges.edge("paid and paid back: 0", BalanceEdgesTest::paidBack);
        edges.edge("charges as they are now: terms", BalanceEdgesTest::termsChange);
        edges.edge("charges as they are now: JOINING", BalanceEdgesTest::joiningChanges);
        edges.edge("charges and SUMS together", BalanceEdgesTest::together);
        edges.edge("charges that COMPANIES 0 and 7 owe, and are owed", BalanceEdgesTest::outermostOwe);
        edges.edge("the greatest: 500 times 1000000", BalanceEdgesTest::greatest);
        edges.edge("asking changes nothing", BalanceEdgesTest::askedTwice);
        edges.end();
    }

    private static WagonClearing chain() {
        WagonClearing x = new WagonClearing();
        for (int company = 0; company < 8; company++) {
            x.line(company, company + 1, company, 10);
        }
        return x;
    }

    private static void balances(Check check, WagonClearing x, int... want) {
        int all = 0;
        for (int company = 0; company < 8; company++) {
            int due = company < want.length ? want[company] : 0;
            int got = x.balance(company);
            check.due("balance(" + company + ")", got, due);
            all += got;
        }
        check.due("all balances", all, 0);
    }

    private static WagonClearing allNonZero() {
        WagonClearing x = chain();
        x.book(0, 8, 1000, 0);
        return x;
    }

    private static void tooSmall(Check check) {
        for (int w : Wrong.below(0)) {
            check.due("balance(" + w + ")", allNonZero().balance(w), 0);
        }
    }

    private static void tooLarge(Check check) {
        for (int w : Wrong.above(7)) {
            check.due("balance(" + w + ")", allNonZero().balance(w), 0);
        }
    }

    private static void outermost(Check check) {
        WagonClearing x = chain();
        x.book(0, 1, 30, 7);
        balances(check, x, 30, 0, 0, 0, 0, 0, 0, -30);
        x.book(7, 8, 100, 0);
        balances(check, x, -70, 0, 0, 0, 0, 0, 0, 70);
    }

    private static void nothing(Check check) {
        balances(check, new WagonClearing());
        balances(check, chain());
    }

    private static void ownPart(Check check) {
        WagonClearing x = chain();
        // 10 each for the ends, 80 by miles: 26.67 each.
        x.book(1, 4, 100, 2);
        balances(check, x, 0, 37, -73, 36);
    }

    private static void allOwn(Check check) {
        WagonClearing x = chain();
        check.due("book(4, 5, 1000, 4)", x.book(4, 5, 1000, 4), true);
        balances(check, x);
        check.due("count(3)", x.count(3), 1);
    }

    private static void noPart(Check check) {
        WagonClearing x = chain();
        x.book(4, 5, 1000, 6);
        balances(check, x, 0, 0, 0, 0, 1000, 0, -1000);
    }

    private static void paidBack(Check check) {
        WagonClearing x = chain();
        x.book(4, 5, 1000, 6);
        x.book(6, 7, 1000, 4);
        balances(check, x);
    }

    private static WagonClearing charged() {
        WagonClearing x = chain();
        x.wagon(12345, 3);
        x.see(12345, 0, 0, 5);
        x.see(12345, 0, 12, 5);
        return x;
    }

    private static void termsChange(Check check) {
        WagonClearing x = charged();
        balances(check, x, 0, 0, 0, 100, 0, -100);
        x.terms(0, 1);
        balances(check, x, 0, 0, 0, 12, 0, -12);
        x.terms(30, 1);
        balances(check, x);
    }

    private static void joiningChanges(Check check) {
        WagonClearing x = charged();
        x.see(12345, 8, 800, 5);
        balances(check, x, 0, 0, 0, 100 + 7860, 0, -100 - 7860);
        WagonClearing y = new WagonClearing();
        y.wagon(12346, 3);
        y.see(12345, 0, 0, 5);
        y.see(12345, 1, 12, 5);
        balances(check, y);
        y.line(0, 1, 0, 200);
        balances(check, y, 0, 0, 0, 100, 0, -100);
        y.wagon(12345, 4);
        balances(check, y, 0, 0, 0, 0, 100, -100);
    }

    private static void outermostOwe(Check check) {
        int[] companies = {0, 7};
        for (int company : companies) {
            WagonClearing x = new WagonClearing();
            x.wagon(12345, 3);
            x.wagon(67890, company);
            x.see(12345, 0, 0, company);
            x.see(12345, 0, 12, company);
            check.due("balance(" + company + ") that owes", x.balance(company), -100);
            check.due("balance(3)", x.balance(3), 100);
            x.see(67890, 0, 12, 3);
            x.see(67890, 0, 17, 3);
            check.due("balance(" + company + ") that is owed too", x.balance(company), -70);
            x.close();
            check.due("balance(" + company + ") after close", x.balance(company), -70);
        }
    }

    private static void together(Check check) {
        WagonClearing x = charged();
        x.book(5, 6, 70, 3);
        balances(check, x, 0, 0, 0, 30, 0, -30);
        x.close();
        balances(check, x, 0, 0, 0, 30, 0, -30);
    }

    private static void greatest(Check check) {
        WagonClearing x = new WagonClearing();
        x.line(0, 1, 0, 10);
        for (int i = 0; i < 500; i++) {
            x.book(0, 1, 1000000, 1);
        }
        check.due("balance(0)", x.balance(0), 500000000);
        check.due("balance(1)", x.balance(1), -500000000);
    }

    private static void askedTwice(Check check) {
        WagonClearing x = charged();
        x.book(5, 6, 70, 3);
        for (int i = 0; i < 5; i++) {
            balances(check, x, 0, 0, 0, 30, 0, -30);
        }
    }
}
