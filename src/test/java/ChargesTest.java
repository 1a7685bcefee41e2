/** Promises 9, 13 and 14: close, terms, charge. */
final class ChargesTest {
    public static void main(String[] args) {
        Check check = new Check();
        daysAboveFreeAreCharged(check);
        eachTwoSightsHaveTheirFreeDays(check);
        ownerIsNotCharged(check);
        nobodysSightsAreNotCharged(check);
        termsAreLookedAt(check);
        closeBooksTheCharges(check);
        closeOfTwoRounds(check);
        wrongNumbers(check);
        check.end();
    }

    private static WagonClearing twoSights(int days) {
        WagonClearing x = new WagonClearing();
        x.wagon(12345, 0);
        x.see(12345, 0, 0, 1);
        x.see(12345, 0, days, 2);
        return x;
    }

    private static void daysAboveFreeAreCharged(Check check) {
        int[][] rows = {{0, 0}, {1, 0}, {2, 0}, {3, 10}, {4, 20}, {999, 9970}};
        for (int[] row : rows) {
            WagonClearing x = twoSights(row[0]);
            check.due("charge for " + row[0] + " days", x.charge(0, 1), row[1]);
            check.due("charge of the second one's company", x.charge(0, 2), 0);
            check.due("balance(0)", x.balance(0), row[1]);
            check.due("balance(1)", x.balance(1), -row[1]);
            check.due("balance(2)", x.balance(2), 0);
        }
    }

    private static void eachTwoSightsHaveTheirFreeDays(Check check) {
        WagonClearing x = new WagonClearing();
        x.wagon(12345, 0);
        x.see(12345, 0, 0, 1);
        x.see(12345, 0, 5, 1);
        x.see(12345, 0, 7, 3);
        x.see(12345, 0, 17, 1);
        x.see(12345, 0, 20, 1);
        check.due("charge(0, 1)", x.charge(0, 1), 30 + 0 + 10);
        check.due("charge(0, 3)", x.charge(0, 3), 80);
        check.due("balance(0)", x.balance(0), 120);
    }

    private static void ownerIsNotCharged(Check check) {
        WagonClearing x = new WagonClearing();
        x.wagon(12345, 1);
        x.see(12345, 0, 0, 1);
        x.see(12345, 0, 100, 2);
        x.see(12345, 0, 110, 1);
        check.due("charge(0, 1)", x.charge(0, 1), 0);
        check.due("charge(0, 2)", x.charge(0, 2), 80);
        check.due("balance(1)", x.balance(1), 80);
        check.due("balance(2)", x.balance(2), -80);
    }

    private static void nobodysSightsAreNotCharged(Check check) {
        WagonClearing x = new WagonClearing();
        x.wagon(12345, 0);
        x.wagon(67890, 2);
        x.see(12345, 0, 0, 1);
        x.see(99999, 0, 1, 3);
        x.see(67890, 0, 2, 4);
        x.see(12345, 0, 12, 5);
        x.see(67890, 0, 22, 6);
        check.due("charge(0, 1)", x.charge(0, 1), 100);
        check.due("charge(1, 4)", x.charge(1, 4), 180);
        check.due("charge(0, 3)", x.charge(0, 3), 0);
        check.due("charge(0, 4)", x.charge(0, 4), 0);
        check.due("charge(1, 1)", x.charge(1, 1), 0);
        check.due("charge(0, 5)", x.charge(0, 5), 0);
    }

    private static void termsAreLookedAt(Check check) {
        WagonClearing x = twoSights(50);
        check.due("terms at first", x.charge(0, 1), 480);
        int[][] wrong = {
            {-1, 10}, {31, 10}, {2, -1}, {2, 101}, {Integer.MIN_VALUE, 10},
            {5, Integer.MAX_VALUE}, {31, 50}, {5, 101},
        };
        for (int[] w : wrong) {
            check.due("wrong terms", x.terms(w[0], w[1]), false);
            check.due("charge after wrong terms", x.charge(0, 1), 480);
        }
        check.due("terms(0, 100)", x.terms(0, 100), true);
        check.due("charge", x.charge(0, 1), 5000);
        check.due("terms(30, 100)", x.terms(30, 100), true);
        check.due("charge", x.charge(0, 1), 2000);
        check.due("terms(30, 0)", x.terms(30, 0), true);
        check.due("charge", x.charge(0, 1), 0);
        check.due("balance(0)", x.balance(0), 0);
    }

    private static void closeBooksTheCharges(Check check) {
        WagonClearing x = twoSights(12);
        check.due("close()", x.close(), 2);
        check.due("count(2)", x.count(2), 0);
        check.due("count(1)", x.count(1), 1);
        check.due("count(3) counts sums, not charges", x.count(3), 0);
        check.due("charge(0, 1) after close", x.charge(0, 1), 0);
        check.due("balance(0) after close", x.balance(0), 100);
        check.due("balance(1) after close", x.balance(1), -100);
        x.terms(0, 100);
        check.due("what was booked stays", x.balance(0), 100);
        check.due("close() again", x.close(), 0);
        check.due("balance(0) after an empty close", x.balance(0), 100);
    }

    private static void closeOfTwoRounds(Check check) {
        WagonClearing x = twoSights(12);
        x.close();
        x.see(12345, 5, 3, 1);
        check.due("a sight before close is forgotten", x.whose(0), 0);
        x.see(12345, 5, 10, 1);
        check.due("charge(0, 1)", x.charge(0, 1), 50);
        check.due("balance(1)", x.balance(1), -150);
        check.due("close()", x.close(), 2);
        check.due("balance(1)", x.balance(1), -150);
    }

    private static void wrongNumbers(Check check) {
        WagonClearing x = twoSights(12);
        int[] wrong = {-1, 8, 9, Integer.MIN_VALUE, Integer.MAX_VALUE};
        for (int w : wrong) {
            check.due("charge(" + w + ", 1)", x.charge(w, 1), 0);
            check.due("charge(0, " + w + ")", x.charge(0, w), 0);
        }
        check.due("charge(1, 1), no such wagon", x.charge(1, 1), 0);
        check.due("charge(4, 1), no such wagon", x.charge(4, 1), 0);
    }
}
