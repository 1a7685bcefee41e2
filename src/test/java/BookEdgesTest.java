/** Promise 6, book: its boundary cases, one test each. */
final class BookEdgesTest {
    public static void main(String[] args) {
        Edges edges = new Edges("6 book");
        edges.edge("it can't be: SUM too small", BookEdgesTest::sumTooSmall);
        edges.edge("it can't be: SUM too large", BookEdgesTest::sumTooLarge);
        edges.edge("SUM 0 is BOOKED", BookEdgesTest::leastSum);
        edges.edge("SUM 1000000 is BOOKED", BookEdgesTest::greatestSum);
        edges.edge("it can't be: from one to itself", BookEdgesTest::oneAndItself);
        edges.edge("it can't be: no ROUTE", BookEdgesTest::noRoute);
        edges.edge("it can't be: no such JUNCTION to begin", BookEdgesTest::wrongFrom);
        edges.edge("it can't be: no such JUNCTION to end", BookEdgesTest::wrongTo);
        edges.edge("no such COMPANY: too small", BookEdgesTest::takerTooSmall);
        edges.edge("no such COMPANY: too large", BookEdgesTest::takerTooLarge);
        edges.edge("COMPANIES 0 and 7 can take", BookEdgesTest::outermostTakers);
        edges.edge("1000 were", BookEdgesTest::full);
        edges.edge("later LINES don't change what was BOOKED", BookEdgesTest::laterLines);
        edges.end();
    }

    private static WagonClearing chain() {
        WagonClearing x = new WagonClearing();
        for (int i = 0; i < 11; i++) {
            x.line(i, i + 1, i % 8, 10);
        }
        return x;
    }

    private static void refused(Check check, int from, int to, int sum, int taker) {
        WagonClearing x = chain();
        String call = "book(" + from + ", " + to + ", " + sum + ", " + taker + ")";
        check.due(call, x.book(from, to, sum, taker), false);
        check.due(call + ", then count(3)", x.count(3), 0);
        for (int company = 0; company < 8; company++) {
            check.due(call + ", then balance", x.balance(company), 0);
        }
    }

    private static void sumTooSmall(Check check) {
        for (int w : Wrong.below(0)) {
            refused(check, 0, 1, w, 3);
        }
    }

    private static void sumTooLarge(Check check) {
        for (int w : Wrong.above(1000000)) {
            refused(check, 0, 1, w, 3);
        }
    }

    private static void leastSum(Check check) {
        WagonClearing x = chain();
        check.due("book(0, 2, 0, 3)", x.book(0, 2, 0, 3), true);
        check.due("count(3)", x.count(3), 1);
        check.due("balance(3)", x.balance(3), 0);
        check.due("book(0, 2, 1, 3)", x.book(0, 2, 1, 3), true);
        check.due("balance(3)", x.balance(3), -1);
        check.due("balance(0)", x.balance(0), 1);
    }

    private static void greatestSum(Check check) {
        WagonClearing x = chain();
        check.due("book(0, 2, 1000000, 3)", x.book(0, 2, 1000000, 3), true);
        check.due("count(3)", x.count(3), 1);
        check.due("balance(3)", x.balance(3), -1000000);
        check.due("balance(0)", x.balance(0), 500000);
        check.due("balance(1)", x.balance(1), 500000);
    }

    private static void oneAndItself(Check check) {
        for (int junction = 0; junction < 12; junction++) {
            refused(check, junction, junction, 100, 3);
        }
    }

    private static void noRoute(Check check) {
        WagonClearing x = new WagonClearing();
        x.line(0, 1, 0, 10);
        check.due("book(0, 2, 100, 3)", x.book(0, 2, 100, 3), false);
        check.due("book(2, 0, 100, 3)", x.book(2, 0, 100, 3), false);
        check.due("book(10, 11, 0, 3)", x.book(10, 11, 0, 3), false);
        check.due("count(3)", x.count(3), 0);
        check.due("balance(3)", x.balance(3), 0);
    }

    private static void wrongFrom(Check check) {
        for (int w : Wrong.outside(0, 11)) {
            refused(check, w, 1, 100, 3);
        }
    }

    private static void wrongTo(Check check) {
        for (int w : Wrong.outside(0, 11)) {
            refused(check, 1, w, 100, 3);
        }
    }

    private static void takerTooSmall(Check check) {
        for (int w : Wrong.below(0)) {
            refused(check, 0, 1, 100, w);
        }
    }

    private static void takerTooLarge(Check check) {
        for (int w : Wrong.above(7)) {
            refused(check, 0, 1, 100, w);
        }
    }

    private static void outermostTakers(Check check) {
        WagonClearing x = chain();
        check.due("book(3, 4, 100, 0)", x.book(3, 4, 100, 0), true);
        check.due("book(3, 4, 50, 7)", x.book(3, 4, 50, 7), true);
        check.due("count(3)", x.count(3), 2);
        check.due("balance(0)", x.balance(0), -100);
        check.due("balance(7)", x.balance(7), -50);
        check.due("balance(3)", x.balance(3), 150);
    }

    // The document leaves free what calls behind the 512th answer; this class keeps the limit there too.
    private static void full(Check check) {
        WagonClearing x = chain();
        for (int i = 0; i < 999; i++) {
            check.due("book number " + i, x.book(0, 1, 1000, 3), true);
        }
        check.due("a refused one is not counted", x.book(0, 1, -1, 3), false);
        check.due("the 1000th", x.book(0, 1, 1000, 3), true);
        check.due("a 1001st", x.book(0, 1, 1000, 3), false);
        check.due("another", x.book(0, 1, 0, 3), false);
        check.due("count(3)", x.count(3), 1000);
        check.due("balance(3)", x.balance(3), -1000000);
    }

    private static void laterLines(Check check) {
        WagonClearing x = new WagonClearing();
        x.line(0, 1, 0, 10);
        x.book(0, 1, 100, 3);
        x.line(0, 1, 1, 9);
        check.due("balance(0)", x.balance(0), 100);
        check.due("balance(1)", x.balance(1), 0);
        x.book(0, 1, 100, 3);
        check.due("balance(1), booked by the new line", x.balance(1), 100);
    }
}
