/** Promise 12, cost: its boundary cases, one test each. */
final class CostEdgesTest {
    public static void main(String[] args) {
        Edges edges = new Edges("12 cost");
        edges.edge("no SIGHTS: 0", CostEdgesTest::noSights);
        edges.edge("0 when SIGHTS went", CostEdgesTest::sightsWent);
        edges.edge("NOBODY's costs 3", CostEdgesTest::nobodys);
        edges.edge("the greatest cost: seven that are NOBODY's", CostEdgesTest::sevenNobodys);
        edges.edge("seven without ERRORS: 0", CostEdgesTest::sevenRight);
        edges.edge("an ERROR of 2 costs less than NOBODY's", CostEdgesTest::errorOfTwo);
        edges.edge("an ERROR above 2 costs 3, not 9", CostEdgesTest::errorOfNine);
        edges.edge("two turned about cost 1", CostEdgesTest::turnedAbout);
        edges.edge("one out of the way costs 3", CostEdgesTest::outOfTheWay);
        edges.edge("one not in time takes a worse WAGON rather than NOBODY's",
                CostEdgesTest::worseWagon);
        edges.edge("seven SIGHTS that fit four WAGONS alike", CostEdgesTest::manyWays);
        edges.edge("the first SIGHT changes it", CostEdgesTest::firstSight);
        edges.edge("the first WAGON changes it, though it comes behind the SIGHTS",
                CostEdgesTest::firstWagon);
        edges.end();
    }

    private static WagonClearing wagons(int... marks) {
        WagonClearing x = new WagonClearing();
        for (int mark : marks) {
            x.wagon(mark, 0);
        }
        return x;
    }

    private static void noSights(Check check) {
        check.due("cost()", wagons().cost(), 0);
        check.due("cost() with wagons", wagons(12345, 67890).cost(), 0);
    }

    private static void sightsWent(Check check) {
        WagonClearing x = wagons(12345);
        x.see(12346, 0, 0, 0);
        x.see(67890, 0, 0, 0);
        check.due("cost()", x.cost(), 4);
        x.close();
        check.due("cost() after close", x.cost(), 0);
    }

    private static void nobodys(Check check) {
        WagonClearing x = wagons();
        x.see(12345, 0, 0, 0);
        check.due("cost() without wagons", x.cost(), 3);
        WagonClearing y = wagons(12345);
        y.see(67890, 0, 0, 0);
        check.due("cost() with another wagon", y.cost(), 3);
    }

    private static void sevenNobodys(Check check) {
        WagonClearing x = wagons(11111, 22222, 33333, 44444);
        for (int i = 1; i <= 7; i++) {
            x.see(99999, 0, 0, 0);
            check.due("cost() of " + i, x.cost(), 3 * i);
        }
    }

    private static void sevenRight(Check check) {
        WagonClearing x = wagons(11111, 22222, 33333, 44444);
        for (int i = 0; i < 7; i++) {
            x.see(11111 * (1 + i % 4), i % 4, 0, 0);
            check.due("cost() of " + (i + 1), x.cost(), 0);
        }
    }

    private static void errorOfTwo(Check check) {
        WagonClearing x = wagons(12345);
        x.see(12367, 0, 0, 0);
        check.due("cost()", x.cost(), 2);
    }

    private static void errorOfNine(Check check) {
        WagonClearing x = wagons(12345);
        x.see(12678, 0, 0, 0);
        check.due("cost()", x.cost(), 3);
    }

    private static void turnedAbout(Check check) {
        WagonClearing x = wagons(12345);
        x.see(12354, 0, 0, 0);
        x.see(21345, 0, 0, 0);
        check.due("cost()", x.cost(), 2);
    }

    private static void outOfTheWay(Check check) {
        WagonClearing x = wagons(12345);
        x.see(12345, 0, 0, 0);
        x.see(12345, 1, 999, 0);
        check.due("cost()", x.cost(), 3);
        x.line(0, 1, 0, 200);
        check.due("cost() with a way", x.cost(), 0);
    }

    private static void worseWagon(Check check) {
        WagonClearing x = wagons(12345, 12367);
        x.see(12345, 0, 0, 0);
        x.see(12345, 1, 0, 0);
        check.due("cost()", x.cost(), 2);
        check.due("whose(1)", x.whose(1), 1);
    }

    private static void firstSight(Check check) {
        WagonClearing x = wagons();
        check.due("cost() before", x.cost(), 0);
        x.see(12345, 0, 0, 0);
        check.due("cost()", x.cost(), 3);
    }

    private static void firstWagon(Check check) {
        WagonClearing x = wagons();
        x.see(12345, 0, 0, 0);
        check.due("cost() before", x.cost(), 3);
        x.wagon(12346, 0);
        check.due("cost()", x.cost(), 1);
    }

    // Each at a junction of its own, so four are the wagons', three nobody's.
    private static void manyWays(Check check) {
        WagonClearing x = wagons(11112, 11113, 11114, 11115);
        for (int i = 0; i < 7; i++) {
            x.see(11111, i, 0, 0);
        }
        check.due("cost()", x.cost(), 4 + 3 * 3);
        for (int i = 0; i < 7; i++) {
            check.due("whose(" + i + ")", x.whose(i), i < 4 ? i : -1);
        }
    }
}
