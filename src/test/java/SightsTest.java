/** Promises 7, 8, 10, 11 and 12: wagon, see, error, whose, cost. */
final class SightsTest {
    public static void main(String[] args) {
        Check check = new Check();
        wagonsAreNumbered(check);
        sightsAreNumbered(check);
        wrongSightsAreRefused(check);
        errors(check);
        wrongNumbers(check);
        nobodysCostsThree(check);
        likeOnesHaveTheLeastWagons(check);
        daysForTheWay(check);
        noWayNoJoining(check);
        betweenTwoOthers(check);
        laterWagonsAndLinesCount(check);
        check.end();
    }

    private static void wagonsAreNumbered(Check check) {
        WagonClearing x = new WagonClearing();
        int[][] wrong = {
            {9999, 0}, {100000, 0}, {0, 0}, {-12345, 0}, {12345, -1}, {12345, 8},
            {Integer.MAX_VALUE, 0}, {Integer.MIN_VALUE, 0}, {12345, Integer.MIN_VALUE},
        };
        for (int[] w : wrong) {
            check.due("wrong wagon", x.wagon(w[0], w[1]), -1);
        }
        check.due("count(1)", x.count(1), 0);
        check.due("wagon(10000, 0)", x.wagon(10000, 0), 0);
        check.due("wagon(10000, 1), alike", x.wagon(10000, 1), -1);
        check.due("wagon(99999, 7)", x.wagon(99999, 7), 1);
        check.due("wagon(10000, 0), alike", x.wagon(10000, 0), -1);
        check.due("wagon(20000, 7)", x.wagon(20000, 7), 2);
        check.due("wagon(30000, 7)", x.wagon(30000, 7), 3);
        check.due("wagon(40000, 7), a fifth", x.wagon(40000, 7), -1);
        check.due("count(1)", x.count(1), 4);
    }

    private static void sightsAreNumbered(Check check) {
        WagonClearing x = new WagonClearing();
        check.due("see(10000, 0, 0, 0)", x.see(10000, 0, 0, 0), 0);
        check.due("see(99999, 11, 0, 7)", x.see(99999, 11, 0, 7), 1);
        check.due("see of day 5", x.see(99999, 11, 5, 7), 2);
        check.due("see of day 4", x.see(99999, 11, 4, 7), -1);
        check.due("see of day 5", x.see(99999, 11, 5, 7), 3);
        check.due("see of day 999", x.see(99999, 11, 999, 7), 4);
        check.due("see of day 998", x.see(99999, 11, 998, 7), -1);
        check.due("see", x.see(99999, 11, 999, 7), 5);
        check.due("see", x.see(99999, 11, 999, 7), 6);
        check.due("an eighth see", x.see(99999, 11, 999, 7), -1);
        check.due("count(2)", x.count(2), 7);
        check.due("cost() without wagons", x.cost(), 21);
        check.due("close()", x.close(), 7);
        check.due("see of day 0 after close", x.see(10000, 0, 0, 0), 0);
    }

    private static void wrongSightsAreRefused(Check check) {
        WagonClearing x = new WagonClearing();
        int[][] wrong = {
            {9999, 0, 0, 0}, {100000, 0, 0, 0}, {12345, -1, 0, 0}, {12345, 12, 0, 0},
            {12345, 0, -1, 0}, {12345, 0, 1000, 0}, {12345, 0, 0, -1}, {12345, 0, 0, 8},
            {Integer.MIN_VALUE, 0, 0, 0}, {12345, Integer.MAX_VALUE, 0, 0},
            {12345, 0, Integer.MAX_VALUE, 0}, {12345, 0, 0, Integer.MIN_VALUE},
        };
        for (int[] w : wrong) {
            check.due("wrong see", x.see(w[0], w[1], w[2], w[3]), -1);
        }
        check.due("count(2)", x.count(2), 0);
        x.see(12345, 0, 10, 0);
        x.see(12345, 0, 1000, 0);
        check.due("a refused day does not hold", x.see(12345, 0, 10, 0), 1);
    }

    private static void errors(Check check) {
        int[][] rows = {
            {12345, 12345, 0}, {12345, 12346, 1}, {12345, 92345, 1}, {12345, 12354, 1},
            {12345, 21345, 1}, {12345, 13245, 1}, {12345, 12435, 1}, {12345, 32145, 2},
            {12345, 12543, 2}, {12345, 12355, 1}, {12345, 12344, 1}, {12345, 12356, 2},
            {12345, 92346, 2}, {12345, 13455, 9}, {12345, 21354, 9}, {12345, 21346, 9},
            {12345, 67890, 9}, {12345, 52341, 2}, {11111, 11111, 0}, {10000, 20001, 2},
            {12345, 99945, 9}, {12121, 21212, 9}, {12345, 13345, 1}, {12345, 12453, 9},
            {12345, 14345, 1}, {12345, 13445, 2}, {12345, 12394, 2}, {12345, 12359, 2},
        };
        for (int[] row : rows) {
            WagonClearing x = new WagonClearing();
            x.wagon(row[0], 0);
            x.see(row[1], 0, 0, 0);
            check.due("error of " + row[1] + " as " + row[0], x.error(0, 0), row[2]);
            check.due("cost of it", x.cost(), Math.min(3, row[2]));
            check.due("whose it is", x.whose(0), row[2] > 2 ? -1 : 0);
        }
    }

    private static void wrongNumbers(Check check) {
        WagonClearing x = new WagonClearing();
        x.wagon(12345, 0);
        x.see(12345, 0, 0, 0);
        int[] wrong = {-1, 1, 4, 7, 8, Integer.MIN_VALUE, Integer.MAX_VALUE};
        for (int w : wrong) {
            check.due("error(" + w + ", 0)", x.error(w, 0), -1);
            check.due("error(0, " + w + ")", x.error(0, w), -1);
            check.due("whose(" + w + ")", x.whose(w), -1);
        }
        x.close();
        check.due("error(0, 0) after close", x.error(0, 0), -1);
        check.due("whose(0) after close", x.whose(0), -1);
        check.due("cost() after close", x.cost(), 0);
    }

    private static void nobodysCostsThree(Check check) {
        WagonClearing x = new WagonClearing();
        x.wagon(11111, 0);
        x.see(11122, 0, 0, 0);
        check.due("an error of 2 is less than nobody's", x.cost(), 2);
        x.see(11222, 0, 0, 0);
        check.due("nobody's", x.cost(), 5);
        check.due("whose(0)", x.whose(0), 0);
        check.due("whose(1)", x.whose(1), -1);
    }

    private static void likeOnesHaveTheLeastWagons(Check check) {
        WagonClearing x = new WagonClearing();
        x.wagon(11113, 0);
        x.wagon(11112, 0);
        x.see(11111, 0, 0, 0);
        x.see(11111, 1, 0, 0);
        x.see(11111, 2, 0, 0);
        check.due("cost()", x.cost(), 5);
        check.due("whose(0)", x.whose(0), 0);
        check.due("whose(1)", x.whose(1), 1);
        check.due("nobody's comes behind all", x.whose(2), -1);
        x.see(11112, 1, 0, 0);
        check.due("cost() of four", x.cost(), 5);
        check.due("whose(0)", x.whose(0), 0);
        check.due("whose(1)", x.whose(1), 1);
        check.due("whose(2)", x.whose(2), -1);
        check.due("whose(3)", x.whose(3), 1);
    }

    private static void daysForTheWay(Check check) {
        int[][] rows = {
            {1, 0, -1}, {1, 1, 0}, {100, 1, 0}, {101, 1, -1}, {101, 2, 0}, {200, 2, 0},
            {200, 1, -1}, {199, 2, 0},
        };
        for (int[] row : rows) {
            WagonClearing x = new WagonClearing();
            x.line(0, 1, 0, row[0]);
            x.wagon(12345, 0);
            x.see(12345, 0, 5, 0);
            x.see(12345, 1, 5 + row[1], 0);
            String text = row[0] + " miles in " + row[1] + " days";
            check.due(text, x.whose(1), row[2]);
            check.due(text + ": the first one", x.whose(0), 0);
            check.due(text + ": cost", x.cost(), row[2] == 0 ? 0 : 3);
        }
    }

    private static void noWayNoJoining(Check check) {
        WagonClearing x = new WagonClearing();
        x.wagon(12345, 0);
        x.see(12346, 0, 0, 0);
        x.see(12345, 1, 900, 0);
        check.due("the one with less errors is the wagon's", x.whose(1), 0);
        check.due("the other one is nobody's", x.whose(0), -1);
        check.due("cost()", x.cost(), 3);
        x.see(12345, 1, 900, 0);
        check.due("a second one at the same junction and day", x.whose(2), 0);
    }

    // A sight of another wagon between two of one wagon is not looked at.
    private static void betweenTwoOthers(Check check) {
        WagonClearing x = new WagonClearing();
        x.line(0, 1, 0, 150);
        x.wagon(12345, 0);
        x.wagon(67890, 0);
        x.see(12345, 0, 0, 0);
        x.see(67890, 1, 0, 0);
        x.see(12345, 1, 1, 0);
        check.due("one day is too few", x.whose(2), -1);
        x.see(12345, 1, 2, 0);
        check.due("two days are enough", x.whose(3), 0);
        check.due("the other wagon", x.whose(1), 1);
        check.due("cost()", x.cost(), 3);
    }

    private static void laterWagonsAndLinesCount(Check check) {
        WagonClearing x = new WagonClearing();
        x.see(12345, 0, 0, 0);
        x.see(12345, 1, 3, 0);
        check.due("cost() before the wagon", x.cost(), 6);
        x.wagon(12346, 0);
        check.due("cost() with the wagon", x.cost(), 4);
        check.due("whose(0)", x.whose(0), 0);
        check.due("whose(1)", x.whose(1), -1);
        x.line(0, 1, 0, 200);
        check.due("cost() with the line", x.cost(), 2);
        check.due("whose(1)", x.whose(1), 0);
        x.wagon(12345, 0);
        check.due("cost() with the right wagon", x.cost(), 0);
        check.due("whose(0)", x.whose(0), 1);
    }
}
