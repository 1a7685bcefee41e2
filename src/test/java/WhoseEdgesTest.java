/** Promise 11, whose: its boundary cases, one test each. */
final class WhoseEdgesTest {
    public static void main(String[] args) {
        Edges edges = new Edges("11 whose");
        edges.edge("none such: too small", WhoseEdgesTest::tooSmall);
        edges.edge("none such: too large", WhoseEdgesTest::tooLarge);
        edges.edge("none such: no SIGHTS", WhoseEdgesTest::noSights);
        edges.edge("none such: SIGHTS that went", WhoseEdgesTest::sightsWent);
        edges.edge("NOBODY's when there are no WAGONS", WhoseEdgesTest::noWagons);
        edges.edge("the last SIGHT can be the last WAGON's", WhoseEdgesTest::lastOnes);
        edges.edge("an ERROR of at most 2: 2 is", WhoseEdgesTest::errorOfTwo);
        edges.edge("an ERROR of at most 2: 9 is not", WhoseEdgesTest::errorOfNine);
        edges.edge("the first SIGHT of a WAGON may be anywhere, any DAY", WhoseEdgesTest::firstSight);
        edges.edge("LEAST 0: the same DAY is enough", WhoseEdgesTest::sameJunction);
        edges.edge("LEAST 1: a begun hundred is a whole one", WhoseEdgesTest::oneMile);
        edges.edge("LEAST 100: one DAY", WhoseEdgesTest::hundredMiles);
        edges.edge("LEAST 101: two DAYS", WhoseEdgesTest::hundredAndOneMiles);
        edges.edge("LEAST 200 and 201: two and three DAYS", WhoseEdgesTest::twoHundredMiles);
        edges.edge("LEAST 2200: 22 DAYS", WhoseEdgesTest::mostMiles);
        edges.edge("if there is no way, it can't be", WhoseEdgesTest::noWay);
        edges.edge("one behind the other: NOBODY's between are not looked at",
                WhoseEdgesTest::nobodysBetween);
        edges.edge("one behind the other: another WAGON's between is not looked at",
                WhoseEdgesTest::othersBetween);
        edges.edge("the least sum, though an early SIGHT fares worse", WhoseEdgesTest::leastSum);
        edges.edge("of like ones the least WAGON", WhoseEdgesTest::likeWagons);
        edges.edge("of like ones, from the first SIGHT on", WhoseEdgesTest::fromTheFirstOn);
        edges.edge("of like ones, NOBODY's behind all", WhoseEdgesTest::nobodysBehindAll);
        edges.edge("a WAGON, LINE or SIGHT that comes changes it", WhoseEdgesTest::changes);
        edges.end();
    }

    private static WagonClearing wagons(int... marks) {
        WagonClearing x = new WagonClearing();
        for (int mark : marks) {
            x.wagon(mark, 0);
        }
        return x;
    }

    private static void whose(Check check, WagonClearing x, int... want) {
        for (int sight = 0; sight < want.length; sight++) {
            check.due("whose(" + sight + ")", x.whose(sight), want[sight]);
        }
    }

    private static void tooSmall(Check check) {
        WagonClearing x = wagons(12345);
        x.see(12345, 0, 0, 0);
        for (int w : Wrong.below(0)) {
            check.due("whose(" + w + ")", x.whose(w), -1);
        }
    }

    private static void tooLarge(Check check) {
        WagonClearing x = wagons(12345);
        x.see(12345, 0, 0, 0);
        for (int w : Wrong.above(0)) {
            check.due("whose(" + w + ")", x.whose(w), -1);
        }
        for (int i = 1; i < 7; i++) {
            check.due("whose(" + i + ")", x.whose(i), -1);
            x.see(12345, 0, 0, 0);
        }
        for (int w : Wrong.above(6)) {
            check.due("whose(" + w + ") of seven", x.whose(w), -1);
        }
    }

    private static void noSights(Check check) {
        whose(check, wagons(12345), -1, -1, -1, -1, -1, -1, -1);
    }

    private static void sightsWent(Check check) {
        WagonClearing x = wagons(12345);
        x.see(12345, 0, 0, 0);
        x.see(12345, 0, 0, 0);
        whose(check, x, 0, 0);
        x.close();
        whose(check, x, -1, -1);
        x.see(12345, 0, 0, 0);
        whose(check, x, 0, -1);
    }

    private static void noWagons(Check check) {
        WagonClearing x = wagons();
        x.see(10000, 0, 0, 0);
        x.see(99999, 0, 0, 0);
        whose(check, x, -1, -1);
    }

    private static void lastOnes(Check check) {
        WagonClearing x = wagons(11111, 22222, 33333, 44444);
        int[] marks = {44444, 33333, 22222, 11111, 22222, 33333, 44444};
        for (int mark : marks) {
            x.see(mark, 0, 0, 0);
        }
        whose(check, x, 3, 2, 1, 0, 1, 2, 3);
    }

    private static void errorOfTwo(Check check) {
        WagonClearing x = wagons(12345);
        x.see(12367, 0, 0, 0);
        whose(check, x, 0);
    }

    private static void errorOfNine(Check check) {
        WagonClearing x = wagons(12345);
        x.see(12678, 0, 0, 0);
        whose(check, x, -1);
    }

    private static void firstSight(Check check) {
        WagonClearing x = wagons(12345, 67890);
        x.see(12345, 11, 0, 0);
        x.see(67890, 0, 0, 0);
        whose(check, x, 0, 1);
        WagonClearing y = wagons(12345);
        y.see(12345, 7, 999, 0);
        whose(check, y, 0);
    }

    private static void sameJunction(Check check) {
        WagonClearing x = wagons(12345);
        for (int i = 0; i < 7; i++) {
            x.see(12345, 4, 9, i);
        }
        whose(check, x, 0, 0, 0, 0, 0, 0, 0);
    }

    /** Two sights, these days apart, at the ends of lines with these miles together. */
    private static int second(int days, int... miles) {
        WagonClearing x = wagons(12345);
        for (int i = 0; i < miles.length; i++) {
            x.line(i, i + 1, 0, miles[i]);
        }
        x.see(12345, 0, 3, 0);
        x.see(12345, miles.length, 3 + days, 0);
        return x.whose(1);
    }

    private static void oneMile(Check check) {
        check.due("1 mile on the same day", second(0, 1), -1);
        check.due("1 mile in 1 day", second(1, 1), 0);
    }

    private static void hundredMiles(Check check) {
        check.due("99 miles in 1 day", second(1, 99), 0);
        check.due("100 miles on the same day", second(0, 100), -1);
        check.due("100 miles in 1 day", second(1, 100), 0);
        check.due("100 miles of two lines in 1 day", second(1, 50, 50), 0);
    }

    private static void hundredAndOneMiles(Check check) {
        check.due("101 miles in 1 day", second(1, 101), -1);
        check.due("101 miles in 2 days", second(2, 101), 0);
        // Each line's begun hundred alone would make three days.
        check.due("101 miles of three lines in 2 days", second(2, 34, 34, 33), 0);
    }

    private static void twoHundredMiles(Check check) {
        check.due("200 miles in 1 day", second(1, 200), -1);
        check.due("200 miles in 2 days", second(2, 200), 0);
        check.due("201 miles in 2 days", second(2, 200, 1), -1);
        check.due("201 miles in 3 days", second(3, 200, 1), 0);
    }

    private static void mostMiles(Check check) {
        int[] miles = {200, 200, 200, 200, 200, 200, 200, 200, 200, 200, 200};
        check.due("2200 miles in 21 days", second(21, miles), -1);
        check.due("2200 miles in 22 days", second(22, miles), 0);
    }

    private static void noWay(Check check) {
        WagonClearing x = wagons(12345);
        x.line(0, 1, 0, 1);
        x.see(12345, 0, 0, 0);
        x.see(12345, 2, 999, 0);
        whose(check, x, 0, -1);
        x.line(2, 1, 0, 200);
        whose(check, x, 0, 0);
    }

    private static void nobodysBetween(Check check) {
        WagonClearing x = wagons(12345);
        x.line(0, 1, 0, 200);
        x.see(12345, 0, 0, 0);
        x.see(99999, 1, 1, 0);
        x.see(12345, 0, 1, 0);
        whose(check, x, 0, -1, 0);
    }

    private static void othersBetween(Check check) {
        WagonClearing x = wagons(12345, 99999);
        x.line(0, 1, 0, 200);
        x.see(12345, 0, 0, 0);
        x.see(99999, 1, 1, 0);
        x.see(12345, 0, 1, 0);
        x.see(99999, 1, 1, 0);
        whose(check, x, 0, 1, 0, 1);
    }

    // The first sight alone would be the wagon's without error; but then both later ones are nobody's.
    private static void leastSum(Check check) {
        WagonClearing x = wagons(12345);
        x.see(12345, 0, 0, 0);
        x.see(12346, 1, 0, 0);
        x.see(12346, 1, 0, 0);
        whose(check, x, -1, 0, 0);
        check.due("cost()", x.cost(), 5);
    }

    private static void likeWagons(Check check) {
        WagonClearing x = wagons(11112, 11113, 11114, 11115);
        x.see(11111, 0, 0, 0);
        whose(check, x, 0);
        x.see(11116, 0, 0, 0);
        whose(check, x, 0, 0);
        // At another junction the same wagon can't be, so it is the next one.
        x.see(11116, 1, 0, 0);
        whose(check, x, 0, 0, 1);
    }

    // Either of the first two can be wagon 0's; if the first one is, the third is 1's, else 0's.
    private static void fromTheFirstOn(Check check) {
        WagonClearing x = wagons(11112, 11113);
        x.see(11111, 0, 0, 0);
        x.see(11111, 1, 0, 0);
        x.see(11111, 1, 0, 0);
        whose(check, x, 0, 1, 1);
        check.due("cost()", x.cost(), 3);
    }

    private static void nobodysBehindAll(Check check) {
        WagonClearing x = wagons(12345);
        x.see(12345, 0, 0, 0);
        x.see(12345, 1, 0, 0);
        whose(check, x, 0, -1);
        // Behind the greatest wagon too, not only behind wagon 0.
        WagonClearing y = wagons(99999, 88888, 77777, 12345);
        y.see(12345, 0, 0, 0);
        y.see(12345, 1, 0, 0);
        y.see(12345, 2, 0, 0);
        whose(check, y, 3, -1, -1);
        // An error of 1 and nobody's cost 4 either way.
        WagonClearing z = wagons(12345);
        z.see(12346, 0, 0, 0);
        z.see(12347, 1, 0, 0);
        whose(check, z, 0, -1);
    }

    private static void changes(Check check) {
        WagonClearing x = wagons(12346);
        x.see(12345, 0, 0, 0);
        x.see(12345, 1, 1, 0);
        whose(check, x, 0, -1);
        x.line(0, 1, 0, 101);
        whose(check, x, 0, -1);
        x.line(0, 1, 0, 100);
        whose(check, x, 0, 0);
        x.wagon(12345, 0);
        whose(check, x, 1, 1);
        x.see(12345, 2, 1, 0);
        whose(check, x, 1, 1, 0);
        x.see(67890, 2, 1, 0);
        whose(check, x, 1, 1, 0, -1);
    }
}
