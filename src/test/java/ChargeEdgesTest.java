/** Promise 14, charge: its boundary cases, one test each. */
final class ChargeEdgesTest {
    public static void main(String[] args) {
        Edges edges = new Edges("14 charge");
        edges.edge("none such: WAGON too small", ChargeEdgesTest::wagonTooSmall);
        edges.edge("none such: WAGON too large", ChargeEdgesTest::wagonTooLarge);
        edges.edge("none such: COMPANY too small", ChargeEdgesTest::companyTooSmall);
        edges.edge("none such: COMPANY too large", ChargeEdgesTest::companyTooLarge);
        edges.edge("COMPANIES 0 and 7, the last WAGON", ChargeEdgesTest::outermost);
        edges.edge("no SIGHT, or one alone: 0", ChargeEdgesTest::lessThanTwo);
        edges.edge("as SIGHTS are now: 0 when they went", ChargeEdgesTest::sightsWent);
        edges.edge("no DAYS between: 0", ChargeEdgesTest::noDays);
        edges.edge("those above FREE: FREE itself is not", ChargeEdgesTest::justFree);
        edges.edge("those above FREE: the next one is", ChargeEdgesTest::oneAboveFree);
        edges.edge("fewer than FREE are not paid back", ChargeEdgesTest::fewerThanFree);
        edges.edge("the most: 999 DAYS, FREE 0, PRICE 100", ChargeEdgesTest::theMost);
        edges.edge("that isn't the OWNER: the OWNER owes nothing", ChargeEdgesTest::owner);
        edges.edge("the COMPANY told at the first one", ChargeEdgesTest::toldAtTheFirst);
        edges.edge("of each two, one behind the other: FREE anew", ChargeEdgesTest::freeAnew);
        edges.edge("another WAGON's SIGHTS don't count", ChargeEdgesTest::otherWagons);
        edges.edge("NOBODY's SIGHTS don't count", ChargeEdgesTest::nobodys);
        edges.edge("by the BEST JOINING, misread MARKS too", ChargeEdgesTest::misread);
        edges.end();
    }

    private static WagonClearing days(int days) {
        WagonClearing x = new WagonClearing();
        x.wagon(12345, 0);
        x.see(12345, 0, 0, 1);
        x.see(12345, 0, days, 1);
        return x;
    }

    private static void wagonTooSmall(Check check) {
        for (int w : Wrong.below(0)) {
            check.due("charge(" + w + ", 1)", days(12).charge(w, 1), 0);
        }
    }

    private static void wagonTooLarge(Check check) {
        for (int w : Wrong.above(0)) {
            check.due("charge(" + w + ", 1)", days(12).charge(w, 1), 0);
        }
        for (int w : Wrong.above(3)) {
            check.due("charge(" + w + ", 1)", days(12).charge(w, 1), 0);
        }
    }

    private static void companyTooSmall(Check check) {
        for (int w : Wrong.below(0)) {
            check.due("charge(0, " + w + ")", days(12).charge(0, w), 0);
        }
    }

    private static void companyTooLarge(Check check) {
        for (int w : Wrong.above(7)) {
            check.due("charge(0, " + w + ")", days(12).charge(0, w), 0);
        }
    }

    private static void outermost(Check check) {
        WagonClearing x = new WagonClearing();
        for (int i = 1; i <= 4; i++) {
            x.wagon(11111 * i, 3);
        }
        x.see(44444, 0, 0, 7);
        x.see(44444, 0, 12, 0);
        x.see(44444, 0, 19, 0);
        check.due("charge(3, 7)", x.charge(3, 7), 100);
        check.due("charge(3, 0)", x.charge(3, 0), 50);
    }

    private static void lessThanTwo(Check check) {
        WagonClearing x = new WagonClearing();
        x.wagon(12345, 0);
        check.due("charge(0, 1) without sights", x.charge(0, 1), 0);
        x.see(12345, 0, 999, 1);
        check.due("charge(0, 1) of one sight", x.charge(0, 1), 0);
    }

    private static void sightsWent(Check check) {
        WagonClearing x = days(12);
        check.due("charge(0, 1)", x.charge(0, 1), 100);
        x.close();
        check.due("charge(0, 1) after close", x.charge(0, 1), 0);
        x.see(12345, 0, 500, 1);
        check.due("charge(0, 1) of one after close", x.charge(0, 1), 0);
        x.see(12345, 0, 503, 1);
        check.due("charge(0, 1) of two after close", x.charge(0, 1), 10);
    }

    private static void noDays(Check check) {
        WagonClearing x = days(0);
        x.terms(0, 100);
        check.due("charge(0, 1)", x.charge(0, 1), 0);
    }

    private static void justFree(Check check) {
        for (int free = 0; free <= 30; free++) {
            WagonClearing x = days(free);
            x.terms(free, 7);
            check.due("charge(0, 1) of " + free + " days", x.charge(0, 1), 0);
        }
    }

    private static void oneAboveFree(Check check) {
        for (int free = 0; free <= 30; free++) {
            WagonClearing x = days(free + 1);
            x.terms(free, 7);
            check.due("charge(0, 1) of " + (free + 1) + " days", x.charge(0, 1), 7);
        }
    }

    private static void fewerThanFree(Check check) {
        WagonClearing x = days(1);
        x.terms(30, 100);
        check.due("charge(0, 1)", x.charge(0, 1), 0);
        x.see(12345, 0, 40, 1);
        check.due("charge(0, 1) with 39 days more", x.charge(0, 1), 900);
        check.due("balance(1)", x.balance(1), -900);
    }

    private static void theMost(Check check) {
        WagonClearing x = days(999);
        x.terms(0, 100);
        check.due("charge(0, 1)", x.charge(0, 1), 99900);
        check.due("balance(0)", x.balance(0), 99900);
    }

    private static void owner(Check check) {
        WagonClearing x = new WagonClearing();
        x.wagon(12345, 1);
        x.see(12345, 0, 0, 1);
        x.see(12345, 0, 500, 1);
        check.due("charge(0, 1)", x.charge(0, 1), 0);
        check.due("balance(1)", x.balance(1), 0);
    }

    private static void toldAtTheFirst(Check check) {
        WagonClearing x = new WagonClearing();
        x.wagon(12345, 0);
        x.see(12345, 0, 0, 4);
        x.see(12345, 0, 12, 5);
        check.due("charge(0, 4)", x.charge(0, 4), 100);
        check.due("charge(0, 5)", x.charge(0, 5), 0);
        x.see(12345, 0, 15, 0);
        check.due("charge(0, 5) with another sight", x.charge(0, 5), 10);
        x.see(12345, 0, 99, 5);
        check.due("charge(0, 0), its own days", x.charge(0, 0), 0);
        check.due("charge(0, 5), its last sight", x.charge(0, 5), 10);
    }

    private static void freeAnew(Check check) {
        WagonClearing x = new WagonClearing();
        x.wagon(12345, 0);
        for (int i = 0; i < 7; i++) {
            x.see(12345, 0, 2 * i, 1);
        }
        check.due("six times two days", x.charge(0, 1), 0);
        WagonClearing y = new WagonClearing();
        y.wagon(12345, 0);
        for (int i = 0; i < 7; i++) {
            y.see(12345, 0, 3 * i, 1);
        }
        check.due("six times three days", y.charge(0, 1), 60);
    }

    private static void otherWagons(Check check) {
        WagonClearing x = new WagonClearing();
        x.wagon(12345, 0);
        x.wagon(67890, 0);
        x.see(12345, 0, 0, 1);
        x.see(67890, 0, 5, 2);
        x.see(12345, 0, 12, 3);
        x.see(67890, 0, 20, 3);
        check.due("charge(0, 1)", x.charge(0, 1), 100);
        check.due("charge(1, 2)", x.charge(1, 2), 130);
        check.due("charge(0, 2)", x.charge(0, 2), 0);
        check.due("charge(1, 1)", x.charge(1, 1), 0);
        check.due("charge(1, 3)", x.charge(1, 3), 0);
    }

    private static void nobodys(Check check) {
        WagonClearing x = new WagonClearing();
        x.wagon(12345, 0);
        x.see(99999, 0, 0, 1);
        x.see(12345, 0, 10, 2);
        x.see(99999, 0, 12, 3);
        x.see(12345, 0, 22, 4);
        x.see(99999, 0, 99, 5);
        check.due("charge(0, 2)", x.charge(0, 2), 100);
        int[] others = {0, 1, 3, 4, 5, 6, 7};
        for (int company : others) {
            check.due("charge(0, " + company + ")", x.charge(0, company), 0);
        }
    }

    private static void misread(Check check) {
        WagonClearing x = new WagonClearing();
        x.wagon(12345, 0);
        x.see(12354, 0, 0, 1);
        x.see(92340, 0, 12, 1);
        check.due("charge(0, 1)", x.charge(0, 1), 100);
        x.wagon(92341, 5);
        check.due("charge(0, 1) when the second is another's", x.charge(0, 1), 0);
    }
}
