/** Promise 9, close: its boundary cases, one test each. */
final class CloseEdgesTest {
    public static void main(String[] args) {
        Edges edges = new Edges("9 close");
        edges.edge("how many there were: none", CloseEdgesTest::none);
        edges.edge("how many there were: one to seven", CloseEdgesTest::oneToSeven);
        edges.edge("refused SIGHTS are not among them", CloseEdgesTest::refusedOnes);
        edges.edge("all SIGHTS go", CloseEdgesTest::allGo);
        edges.edge("what they are charged for is BOOKED", CloseEdgesTest::booked);
        edges.edge("BOOKED once, not twice", CloseEdgesTest::bookedOnce);
        edges.edge("BOOKED by the terms of then", CloseEdgesTest::bookedByTheTermsOfThen);
        edges.edge("BOOKED by the JOINING of then", CloseEdgesTest::bookedByTheJoiningOfThen);
        edges.edge("nothing charged, nothing BOOKED", CloseEdgesTest::nothingCharged);
        edges.edge("charges of several closes add up", CloseEdgesTest::severalCloses);
        edges.edge("SUMS that were BOOKED are not counted more", CloseEdgesTest::sumsAreNotMore);
        edges.edge("LINES, WAGONS, terms, EMPTIES stay", CloseEdgesTest::theRestStays);
        edges.edge("a SIGHT of before is not joined with one of after", CloseEdgesTest::notJoined);
        edges.end();
    }

    private static WagonClearing withWagon() {
        WagonClearing x = new WagonClearing();
        x.wagon(12345, 0);
        return x;
    }

    private static WagonClearing charged() {
        WagonClearing x = withWagon();
        x.see(12345, 0, 0, 1);
        x.see(12345, 0, 12, 2);
        x.see(12345, 0, 17, 2);
        return x;
    }

    private static void none(Check check) {
        WagonClearing x = new WagonClearing();
        check.due("close()", x.close(), 0);
        check.due("close() again", x.close(), 0);
        check.due("fewest()", x.fewest(), 0);
        WagonClearing y = charged();
        y.close();
        check.due("close() after close()", y.close(), 0);
    }

    private static void oneToSeven(Check check) {
        WagonClearing x = new WagonClearing();
        for (int many = 1; many <= 7; many++) {
            for (int i = 0; i < many; i++) {
                x.see(12345, 0, i, 0);
            }
            check.due("close() of " + many, x.close(), many);
        }
    }

    private static void refusedOnes(Check check) {
        WagonClearing x = new WagonClearing();
        x.see(12345, 0, 5, 0);
        x.see(12345, 0, 4, 0);
        x.see(9999, 0, 5, 0);
        check.due("close()", x.close(), 1);
    }

    private static void allGo(Check check) {
        WagonClearing x = charged();
        x.see(67890, 0, 20, 2);
        check.due("cost() before", x.cost(), 3);
        x.close();
        check.due("count(2)", x.count(2), 0);
        check.due("cost()", x.cost(), 0);
        for (int sight = 0; sight < 7; sight++) {
            check.due("whose(" + sight + ")", x.whose(sight), -1);
            check.due("error(" + sight + ", 0)", x.error(sight, 0), -1);
        }
        for (int company = 0; company < 8; company++) {
            check.due("charge(0, " + company + ")", x.charge(0, company), 0);
        }
        check.due("the next sight's number", x.see(12345, 0, 0, 0), 0);
    }

    private static void booked(Check check) {
        WagonClearing x = charged();
        x.close();
        check.due("balance(0)", x.balance(0), 130);
        check.due("balance(1)", x.balance(1), -100);
        check.due("balance(2)", x.balance(2), -30);
        check.due("fewest()", x.fewest(), 2);
        check.due("group(0)", x.group(0), 7);
    }

    private static void bookedOnce(Check check) {
        WagonClearing x = charged();
        check.due("balance(0) before", x.balance(0), 130);
        x.close();
        check.due("balance(0)", x.balance(0), 130);
        x.close();
        check.due("balance(0) after another close", x.balance(0), 130);
    }

    private static void bookedByTheTermsOfThen(Check check) {
        WagonClearing x = charged();
        x.terms(12, 7);
        x.close();
        x.terms(0, 100);
        check.due("balance(0)", x.balance(0), 0);
        WagonClearing y = charged();
        y.terms(11, 7);
        y.close();
        y.terms(0, 100);
        check.due("balance(0)", y.balance(0), 7);
    }

    // A wagon or line that comes later would have changed whose the sights were.
    private static void bookedByTheJoiningOfThen(Check check) {
        WagonClearing x = withWagon();
        x.see(12346, 0, 0, 1);
        x.see(12346, 0, 12, 1);
        x.see(12346, 1, 30, 1);
        x.close();
        x.wagon(12346, 5);
        x.line(0, 1, 0, 1);
        check.due("balance(0)", x.balance(0), 100);
        check.due("balance(5)", x.balance(5), 0);
    }

    private static void nothingCharged(Check check) {
        WagonClearing x = withWagon();
        x.see(12345, 0, 0, 0);
        x.see(12345, 0, 500, 1);
        x.see(12345, 0, 502, 2);
        x.see(67890, 0, 600, 3);
        x.see(67890, 0, 900, 3);
        check.due("close()", x.close(), 5);
        for (int company = 0; company < 8; company++) {
            check.due("balance(" + company + ")", x.balance(company), 0);
        }
    }

    private static void severalCloses(Check check) {
        WagonClearing x = withWagon();
        for (int round = 1; round <= 3; round++) {
            x.see(12345, 0, 0, 1);
            x.see(12345, 0, 12, 2);
            x.close();
            check.due("balance(0) of round " + round, x.balance(0), 100 * round);
            check.due("balance(1) of round " + round, x.balance(1), -100 * round);
        }
    }

    private static void sumsAreNotMore(Check check) {
        WagonClearing x = charged();
        x.line(0, 1, 0, 10);
        x.book(0, 1, 100, 1);
        x.close();
        check.due("count(3)", x.count(3), 1);
        check.due("balance(1), both sums", x.balance(1), -200);
    }

    private static void theRestStays(Check check) {
        WagonClearing x = charged();
        x.line(0, 1, 0, 10);
        x.terms(0, 3);
        x.empties(0, 2, 1);
        x.close();
        int[] counts = {1, 1, 0, 0, 2, 1};
        for (int what = 0; what < 6; what++) {
            check.due("count(" + what + ")", x.count(what), counts[what]);
        }
        check.due("least(0, 1)", x.least(0, 1), 10);
        x.see(12345, 0, 0, 1);
        x.see(12345, 0, 1, 1);
        check.due("charge(0, 1) by the terms of before", x.charge(0, 1), 3);
    }

    private static void notJoined(Check check) {
        WagonClearing x = withWagon();
        x.see(12345, 0, 0, 1);
        x.close();
        x.see(12345, 0, 900, 1);
        check.due("charge(0, 1) of 900 days", x.charge(0, 1), 0);
        check.due("balance(0)", x.balance(0), 0);
        x.close();
        x.see(12346, 5, 900, 1);
        check.due("another junction on the same day", x.whose(0), 0);
        check.due("cost()", x.cost(), 1);
    }
}
