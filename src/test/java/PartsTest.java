/** Promises 5 and 6: part, book. */
final class PartsTest {
    public static void main(String[] args) {
        Check check = new Check();
        terminalsAndMiles(check);
        mostCutOffHasOneMore(check);
        likeOnesGoToTheLesserCompany(check);
        bigSums(check);
        wrongParts(check);
        bookings(check);
        bookedStaysAsItWas(check);
        wrongBookings(check);
        check.end();
    }

    private static void parts(Check check, WagonClearing x, int to, int sum, int... want) {
        for (int company = 0; company < 8; company++) {
            int due = company < want.length ? want[company] : 0;
            check.due("part of " + sum + " for " + company, x.part(0, to, sum, company), due);
        }
    }

    private static void terminalsAndMiles(Check check) {
        WagonClearing x = new WagonClearing();
        x.line(0, 1, 0, 10);
        x.line(1, 2, 1, 70);
        x.line(2, 3, 2, 20);
        parts(check, x, 3, 1000, 180, 560, 260);
        parts(check, x, 3, 0, 0, 0, 0);
        // Below 10 there are no terminals.
        parts(check, x, 3, 9, 1, 6, 2);
        // 2 of 19 for terminals, 17 by miles: 1.7, 11.9, 3.4.
        parts(check, x, 3, 19, 3, 12, 4);
        parts(check, x, 1, 77, 77);
    }

    private static void mostCutOffHasOneMore(Check check) {
        WagonClearing x = new WagonClearing();
        x.line(0, 1, 5, 30);
        x.line(1, 2, 4, 33);
        x.line(2, 3, 3, 37);
        x.line(3, 4, 5, 1);
        // 5: 31, 4: 33, 3: 37 of 101; of 8 by miles: 2.455.., 2.613.., 2.930..
        parts(check, x, 4, 8, 0, 0, 0, 3, 3, 2);
        // Of 7: 2.148.., 2.287.., 2.564..
        parts(check, x, 4, 7, 0, 0, 0, 3, 2, 2);
    }

    private static void likeOnesGoToTheLesserCompany(Check check) {
        WagonClearing x = new WagonClearing();
        x.line(0, 1, 6, 10);
        x.line(1, 2, 2, 10);
        x.line(2, 3, 7, 10);
        parts(check, x, 3, 4, 0, 0, 2, 0, 0, 0, 1, 1);
        parts(check, x, 3, 5, 0, 0, 2, 0, 0, 0, 2, 1);
        parts(check, x, 3, 10, 0, 0, 3, 0, 0, 0, 4, 3);
    }

    private static void bigSums(Check check) {
        WagonClearing x = new WagonClearing();
        for (int i = 0; i < 11; i++) {
            x.line(i, i + 1, i < 10 ? 1 : 0, 200);
        }
        // 800000 by miles: 727272.72.. and 72727.27..
        parts(check, x, 11, 1000000, 172727, 827273);
    }

    private static void wrongParts(Check check) {
        WagonClearing x = new WagonClearing();
        x.line(0, 1, 0, 10);
        int[][] wrong = {
            {0, 0, 5, 0}, {0, 2, 5, 0}, {-1, 1, 5, 0}, {12, 1, 5, 0}, {0, -1, 5, 0},
            {0, 12, 5, 0}, {0, 1, -1, 0}, {0, 1, 1000001, 0}, {0, 1, 5, -1}, {0, 1, 5, 8},
            {-1, -1, 5, 0}, {12, 12, 5, 0}, {0, 1, Integer.MIN_VALUE, 0},
            {0, 1, Integer.MAX_VALUE, 0}, {0, 1, 5, Integer.MAX_VALUE},
        };
        for (int[] w : wrong) {
            check.due("wrong part", x.part(w[0], w[1], w[2], w[3]), -1);
        }
        check.due("part of the greatest sum", x.part(0, 1, 1000000, 0), 1000000);
    }

    private static void bookings(Check check) {
        WagonClearing x = new WagonClearing();
        x.line(0, 1, 0, 10);
        x.line(1, 2, 1, 10);
        check.due("book(0, 2, 100, 0)", x.book(0, 2, 100, 0), true);
        check.due("balance(0)", x.balance(0), -50);
        check.due("balance(1)", x.balance(1), 50);
        check.due("book(0, 2, 101, 7)", x.book(0, 2, 101, 7), true);
        check.due("balance(0)", x.balance(0), 1);
        check.due("balance(1)", x.balance(1), 100);
        check.due("balance(7)", x.balance(7), -101);
        check.due("book(0, 2, 0, 7)", x.book(0, 2, 0, 7), true);
        check.due("count(3)", x.count(3), 3);
        check.due("book(0, 1, 1000000, 0), all its own", x.book(0, 1, 1000000, 0), true);
        check.due("balance(0)", x.balance(0), 1);
        for (int i = 0; i < 400; i++) {
            x.book(0, 2, 1000000, 7);
        }
        check.due("balance(7)", x.balance(7), -400000101);
        check.due("balance(1)", x.balance(1), 200000100);
    }

    private static void bookedStaysAsItWas(Check check) {
        WagonClearing x = new WagonClearing();
        x.line(0, 1, 0, 100);
        x.book(0, 1, 60, 2);
        x.line(0, 1, 1, 50);
        check.due("balance(0) after a shorter line", x.balance(0), 60);
        check.due("balance(1) after a shorter line", x.balance(1), 0);
    }

    private static void wrongBookings(Check check) {
        WagonClearing x = new WagonClearing();
        x.line(0, 1, 0, 10);
        int[][] wrong = {
            {0, 0, 5, 1}, {0, 2, 5, 1}, {-1, 1, 5, 1}, {0, 12, 5, 1}, {0, 1, -1, 1},
            {0, 1, 1000001, 1}, {0, 1, 5, -1}, {0, 1, 5, 8}, {0, 1, 5, Integer.MIN_VALUE},
        };
        for (int[] w : wrong) {
            check.due("wrong book", x.book(w[0], w[1], w[2], w[3]), false);
        }
        check.due("count(3)", x.count(3), 0);
        check.due("balance(0)", x.balance(0), 0);
        check.due("balance(1)", x.balance(1), 0);
    }
}
