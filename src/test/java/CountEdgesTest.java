/** Promise 21, count: its boundary cases, one test each. */
final class CountEdgesTest {
    public static void main(String[] args) {
        Edges edges = new Edges("21 count");
        edges.edge("NONE for others: too small", CountEdgesTest::tooSmall);
        edges.edge("NONE for others: too large", CountEdgesTest::tooLarge);
        edges.edge("0 LINES: none to 24, not more", CountEdgesTest::lines);
        edges.edge("1 WAGONS: none to 4, not more", CountEdgesTest::wagons);
        edges.edge("2 SIGHTS: none to 7, not more; none when they went", CountEdgesTest::sights);
        edges.edge("3 SUMS that were BOOKED: those of 0 too, refused ones not", CountEdgesTest::sums);
        edges.edge("4 EMPTIES: none to 108", CountEdgesTest::empties);
        edges.edge("5 WANTS: none to 108", CountEdgesTest::wants);
        edges.edge("each by itself", CountEdgesTest::eachByItself);
        edges.end();
    }

    private static void counts(Check check, WagonClearing x, int... want) {
        for (int what = 0; what < 6; what++) {
            check.due("count(" + what + ")", x.count(what), want[what]);
        }
    }

    private static WagonClearing someOfAll() {
        WagonClearing x = new WagonClearing();
        x.line(0, 1, 0, 1);
        x.wagon(12345, 0);
        x.see(12345, 0, 0, 0);
        x.book(0, 1, 5, 0);
        x.empties(0, 1, 1);
        return x;
    }

    private static void tooSmall(Check check) {
        for (int w : Wrong.below(0)) {
            check.due("count(" + w + ")", someOfAll().count(w), -1);
        }
    }

    private static void tooLarge(Check check) {
        for (int w : Wrong.above(5)) {
            check.due("count(" + w + ")", someOfAll().count(w), -1);
        }
    }

    private static void lines(Check check) {
        WagonClearing x = new WagonClearing();
        for (int i = 0; i < 30; i++) {
            counts(check, x, Math.min(i, 24), 0, 0, 0, 0, 0);
            x.line(0, 0, 0, 1);
            x.line(0, 1, 0, 1);
        }
    }

    private static void wagons(Check check) {
        WagonClearing x = new WagonClearing();
        for (int i = 0; i < 8; i++) {
            counts(check, x, 0, Math.min(i, 4), 0, 0, 0, 0);
            x.wagon(9999, 0);
            x.wagon(10000 + i, 0);
            x.wagon(10000, 0);
        }
    }

    private static void sights(Check check) {
        WagonClearing x = new WagonClearing();
        for (int i = 0; i < 10; i++) {
            counts(check, x, 0, 0, Math.min(i, 7), 0, 0, 0);
            x.see(12345, 0, 1000, 0);
            x.see(12345, 0, 0, 0);
        }
        x.close();
        counts(check, x, 0, 0, 0, 0, 0, 0);
    }

    private static void sums(Check check) {
        WagonClearing x = new WagonClearing();
        x.line(0, 1, 0, 1);
        for (int i = 0; i < 20; i++) {
            counts(check, x, 1, 0, 0, i, 0, 0);
            x.book(0, 2, 5, 0);
            x.book(0, 1, -1, 0);
            x.part(0, 1, 5, 0);
            x.book(0, 1, i % 2, 0);
        }
    }

    private static void empties(Check check) {
        WagonClearing x = new WagonClearing();
        for (int i = 0; i < 12; i++) {
            counts(check, x, 0, 0, 0, 0, 9 * i, 0);
            x.empties(i, 10, 0);
            x.empties(i, 9, 0);
        }
        counts(check, x, 0, 0, 0, 0, 108, 0);
        x.empties(11, 0, 0);
        counts(check, x, 0, 0, 0, 0, 99, 0);
    }

    private static void wants(Check check) {
        WagonClearing x = new WagonClearing();
        for (int i = 0; i < 12; i++) {
            counts(check, x, 0, 0, 0, 0, 0, 9 * i);
            x.empties(i, 0, 10);
            x.empties(i, 0, 9);
        }
        counts(check, x, 0, 0, 0, 0, 0, 108);
        x.empties(11, 0, 0);
        counts(check, x, 0, 0, 0, 0, 0, 99);
    }

    private static void eachByItself(Check check) {
        WagonClearing x = new WagonClearing();
        for (int i = 0; i < 6; i++) {
            x.line(0, 1, 0, 1);
        }
        for (int i = 0; i < 4; i++) {
            x.wagon(10000 + i, 0);
        }
        for (int i = 0; i < 5; i++) {
            x.see(10000, 0, 0, 0);
        }
        for (int i = 0; i < 7; i++) {
            x.book(0, 1, 5, 0);
        }
        x.empties(0, 9, 1);
        x.empties(1, 1, 2);
        counts(check, x, 6, 4, 5, 7, 10, 3);
    }
}
