/** Promise 1, a new object: what it has not, one test each. */
final class NewObjectEdgesTest {
    public static void main(String[] args) {
        Edges edges = new Edges("1 new object");
        edges.edge("no LINES", NewObjectEdgesTest::noLines);
        edges.edge("no WAGONS", NewObjectEdgesTest::noWagons);
        edges.edge("no SIGHTS", NewObjectEdgesTest::noSights);
        edges.edge("nothing BOOKED", NewObjectEdgesTest::nothingBooked);
        edges.edge("no EMPTIES, none WANTED", NewObjectEdgesTest::noEmpties);
        edges.edge("FREE is 2 at first", NewObjectEdgesTest::freeAtFirst);
        edges.edge("PRICE is 10 at first", NewObjectEdgesTest::priceAtFirst);
        edges.edge("another object's calls don't count", NewObjectEdgesTest::apart);
        edges.end();
    }

    private static void noLines(Check check) {
        WagonClearing x = new WagonClearing();
        check.due("count(0)", x.count(0), 0);
        for (int a = 0; a < 12; a++) {
            for (int b = 0; b < 12; b++) {
                check.due("least(" + a + ", " + b + ")", x.least(a, b), a == b ? 0 : -1);
                check.due("route(" + a + ", " + b + ")", x.route(a, b), -1);
            }
        }
        check.due("part(0, 1, 10, 0)", x.part(0, 1, 10, 0), -1);
        check.due("the first line's number", x.line(0, 1, 0, 1), 0);
    }

    private static void noWagons(Check check) {
        WagonClearing x = new WagonClearing();
        check.due("count(1)", x.count(1), 0);
        check.due("charge(0, 0)", x.charge(0, 0), 0);
        x.see(10000, 0, 0, 0);
        check.due("error(0, 0)", x.error(0, 0), -1);
        check.due("whose(0)", x.whose(0), -1);
        check.due("the first wagon's number", x.wagon(10000, 0), 0);
    }

    private static void noSights(Check check) {
        WagonClearing x = new WagonClearing();
        check.due("count(2)", x.count(2), 0);
        check.due("whose(0)", x.whose(0), -1);
        check.due("cost()", x.cost(), 0);
        check.due("close()", x.close(), 0);
        x.wagon(10000, 0);
        check.due("error(0, 0)", x.error(0, 0), -1);
        check.due("the first sight's number, on the first day", x.see(10000, 0, 0, 0), 0);
    }

    private static void nothingBooked(Check check) {
        WagonClearing x = new WagonClearing();
        check.due("count(3)", x.count(3), 0);
        check.due("fewest()", x.fewest(), 0);
        for (int company = 0; company < 8; company++) {
            check.due("balance(" + company + ")", x.balance(company), 0);
            check.due("group(" + company + ")", x.group(company), 0);
        }
    }

    private static void noEmpties(Check check) {
        WagonClearing x = new WagonClearing();
        check.due("count(4)", x.count(4), 0);
        check.due("count(5)", x.count(5), 0);
        check.due("met()", x.met(), 0);
        check.due("led()", x.led(), 0);
    }

    private static WagonClearing strangeDays(int days) {
        WagonClearing x = new WagonClearing();
        x.wagon(12345, 0);
        x.see(12345, 0, 0, 1);
        x.see(12345, 0, days, 1);
        return x;
    }

    private static void freeAtFirst(Check check) {
        check.due("2 days are free", strangeDays(2).charge(0, 1), 0);
        check.due("the third is not", strangeDays(3).charge(0, 1) > 0, true);
    }

    private static void priceAtFirst(Check check) {
        int one = strangeDays(11).charge(0, 1) - strangeDays(10).charge(0, 1);
        check.due("one day more", one, 10);
    }

    private static void apart(Check check) {
        WagonClearing before = strangeDays(3);
        WagonClearing one = new WagonClearing();
        one.line(0, 1, 2, 10);
        one.book(0, 1, 100, 3);
        one.wagon(12345, 0);
        one.see(12345, 0, 0, 1);
        one.terms(0, 100);
        one.empties(0, 2, 1);
        isApart(check, before);
        isApart(check, strangeDays(3));
    }

    private static void isApart(Check check, WagonClearing other) {
        check.due("charge(0, 1)", other.charge(0, 1), 10);
        check.due("balance(2)", other.balance(2), 0);
        check.due("least(0, 1)", other.least(0, 1), -1);
        int[] counts = {0, 1, 2, 0, 0, 0};
        for (int what = 0; what < 6; what++) {
            check.due("count(" + what + ")", other.count(what), counts[what]);
        }
    }
}
