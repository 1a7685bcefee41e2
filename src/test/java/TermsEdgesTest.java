/** Promise 13, terms: its boundary cases, one test each. */
final class TermsEdgesTest {
    public static void main(String[] args) {
        Edges edges = new Edges("13 terms");
        edges.edge("FREE can't be: too small", TermsEdgesTest::freeTooSmall);
        edges.edge("FREE can't be: too large", TermsEdgesTest::freeTooLarge);
        edges.edge("FREE 0 can be", TermsEdgesTest::leastFree);
        edges.edge("FREE 30 can be", TermsEdgesTest::mostFree);
        edges.edge("PRICE can't be: too small", TermsEdgesTest::priceTooSmall);
        edges.edge("PRICE can't be: too large", TermsEdgesTest::priceTooLarge);
        edges.edge("PRICE 0 can be", TermsEdgesTest::leastPrice);
        edges.edge("PRICE 100 can be", TermsEdgesTest::greatestPrice);
        edges.edge("a good FREE with a wrong PRICE changes neither", TermsEdgesTest::goodFree);
        edges.edge("a good PRICE with a wrong FREE changes neither", TermsEdgesTest::goodPrice);
        edges.edge("the same terms again: true", TermsEdgesTest::sameAgain);
        edges.edge("they can come before any SIGHT", TermsEdgesTest::beforeSights);
        edges.end();
    }

    /** Forty days on company 1's lines: 380 by the terms at first. */
    private static WagonClearing fortyDays() {
        WagonClearing x = new WagonClearing();
        x.wagon(12345, 0);
        x.see(12345, 0, 100, 1);
        x.see(12345, 0, 140, 1);
        return x;
    }

    private static void refused(Check check, int free, int price) {
        WagonClearing x = fortyDays();
        String call = "terms(" + free + ", " + price + ")";
        check.due(call, x.terms(free, price), false);
        check.due(call + ", then charge(0, 1)", x.charge(0, 1), 380);
    }

    private static void taken(Check check, int free, int price) {
        WagonClearing x = fortyDays();
        String call = "terms(" + free + ", " + price + ")";
        check.due(call, x.terms(free, price), true);
        check.due(call + ", then charge(0, 1)", x.charge(0, 1), (40 - free) * price);
        check.due(call + ", then balance(0)", x.balance(0), (40 - free) * price);
    }

    private static void freeTooSmall(Check check) {
        for (int w : Wrong.below(0)) {
            refused(check, w, 10);
        }
    }

    private static void freeTooLarge(Check check) {
        for (int w : Wrong.above(30)) {
            refused(check, w, 10);
        }
    }

    private static void leastFree(Check check) {
        taken(check, 0, 10);
    }

    private static void mostFree(Check check) {
        taken(check, 30, 10);
    }

    private static void priceTooSmall(Check check) {
        for (int w : Wrong.below(0)) {
            refused(check, 2, w);
        }
    }

    private static void priceTooLarge(Check check) {
        for (int w : Wrong.above(100)) {
            refused(check, 2, w);
        }
    }

    private static void leastPrice(Check check) {
        taken(check, 2, 0);
    }

    private static void greatestPrice(Check check) {
        taken(check, 2, 100);
    }

    private static void goodFree(Check check) {
        refused(check, 5, -1);
        refused(check, 5, 101);
    }

    private static void goodPrice(Check check) {
        refused(check, -1, 50);
        refused(check, 31, 50);
    }

    private static void sameAgain(Check check) {
        taken(check, 2, 10);
        WagonClearing x = fortyDays();
        x.terms(5, 3);
        check.due("terms(5, 3) again", x.terms(5, 3), true);
        check.due("charge(0, 1)", x.charge(0, 1), 105);
    }

    private static void beforeSights(Check check) {
        WagonClearing x = new WagonClearing();
        check.due("terms(1, 7)", x.terms(1, 7), true);
        x.wagon(12345, 0);
        x.see(12345, 0, 0, 1);
        x.see(12345, 0, 3, 1);
        check.due("charge(0, 1)", x.charge(0, 1), 14);
    }
}
