/** Promises 2, 3 and 4: line, least, route. */
final class WaysTest {
    public static void main(String[] args) {
        Check check = new Check();
        linesAreNumbered(check);
        wrongLinesAreRefused(check);
        leastIsTheLeast(check);
        routeGoesToTheLeastJunction(check);
        routeTakesTheLeastNumber(check);
        wrongJunctions(check);
        check.end();
    }

    private static void linesAreNumbered(Check check) {
        WagonClearing x = new WagonClearing();
        for (int i = 0; i < 24; i++) {
            check.due("line " + i, x.line(i % 12, (i + 1) % 12, i % 8, 1 + i), i);
        }
        check.due("line after 24", x.line(0, 1, 0, 1), -1);
        check.due("least after the refused one", x.least(0, 1), 1);
        check.due("count(0)", x.count(0), 24);
    }

    private static void wrongLinesAreRefused(Check check) {
        WagonClearing x = new WagonClearing();
        int[][] wrong = {
            {-1, 1, 0, 5}, {12, 1, 0, 5}, {1, -1, 0, 5}, {1, 12, 0, 5}, {3, 3, 0, 5},
            {0, 1, -1, 5}, {0, 1, 8, 5}, {0, 1, 0, 0}, {0, 1, 0, 201}, {0, 1, 0, -1},
            {Integer.MIN_VALUE, 1, 0, 5}, {0, Integer.MAX_VALUE, 0, 5},
            {0, 1, Integer.MAX_VALUE, 5}, {0, 1, 0, Integer.MIN_VALUE},
        };
        for (int[] w : wrong) {
            check.due("wrong line", x.line(w[0], w[1], w[2], w[3]), -1);
        }
        check.due("count(0)", x.count(0), 0);
        check.due("least(0, 1)", x.least(0, 1), -1);
        check.due("line(0, 11, 7, 200)", x.line(0, 11, 7, 200), 0);
        check.due("line(11, 0, 0, 1)", x.line(11, 0, 0, 1), 1);
        check.due("least(11, 0)", x.least(11, 0), 1);
    }

    private static void leastIsTheLeast(Check check) {
        WagonClearing x = new WagonClearing();
        for (int i = 0; i < 11; i++) {
            x.line(i, i + 1, 0, 200);
        }
        check.due("least of the longest way", x.least(0, 11), 2200);
        check.due("least the other way", x.least(11, 0), 2200);
        check.due("least(5, 5)", x.least(5, 5), 0);
        x.line(11, 1, 0, 7);
        check.due("least by a new line", x.least(0, 11), 207);
        check.due("least by a new line, behind it", x.least(0, 10), 407);
        check.due("least where the new line does not help", x.least(0, 6), 1200);
        check.due("least where the new line helps", x.least(0, 7), 1007);
    }

    private static void routeGoesToTheLeastJunction(Check check) {
        WagonClearing x = new WagonClearing();
        x.line(0, 5, 0, 10);
        x.line(5, 9, 0, 10);
        x.line(0, 3, 0, 5);
        x.line(3, 9, 0, 15);
        x.line(9, 0, 0, 21);
        check.due("route(0, 9)", x.route(0, 9), 2);
        check.due("route(9, 0)", x.route(9, 0), 3);
        x.line(0, 9, 0, 20);
        check.due("route(0, 9) with one as short to a greater junction", x.route(0, 9), 2);
        check.due("route(9, 0) with one as short to a lesser junction", x.route(9, 0), 5);
        check.due("route(0, 5)", x.route(0, 5), 0);
        x.line(0, 9, 0, 19);
        check.due("route(0, 9) with a shorter one", x.route(0, 9), 6);
    }

    private static void routeTakesTheLeastNumber(Check check) {
        WagonClearing x = new WagonClearing();
        x.line(0, 1, 3, 9);
        x.line(1, 0, 1, 8);
        x.line(0, 1, 2, 8);
        check.due("route(0, 1)", x.route(0, 1), 1);
        check.due("route(1, 0)", x.route(1, 0), 1);
        check.due("the first one's company has all", x.part(0, 1, 50, 1), 50);
    }

    private static void wrongJunctions(Check check) {
        WagonClearing x = new WagonClearing();
        x.line(0, 1, 0, 10);
        int[] wrong = {-1, 12, 13, 144, Integer.MIN_VALUE, Integer.MAX_VALUE};
        for (int w : wrong) {
            check.due("least(" + w + ", 0)", x.least(w, 0), -1);
            check.due("least(0, " + w + ")", x.least(0, w), -1);
            check.due("least(" + w + ", itself)", x.least(w, w), -1);
            check.due("route(" + w + ", 0)", x.route(w, 0), -1);
            check.due("route(0, " + w + ")", x.route(0, w), -1);
            check.due("route(" + w + ", itself)", x.route(w, w), -1);
        }
        check.due("route(0, 0)", x.route(0, 0), -1);
        check.due("route(0, 2)", x.route(0, 2), -1);
        check.due("least(0, 2)", x.least(0, 2), -1);
    }
}
