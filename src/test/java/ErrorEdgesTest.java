/** Promise 10, error: its boundary cases, one test each. */
final class ErrorEdgesTest {
    public static void main(String[] args) {
        Edges edges = new Edges("10 error");
        edges.edge("none such: SIGHT too small", ErrorEdgesTest::sightTooSmall);
        edges.edge("none such: SIGHT too large", ErrorEdgesTest::sightTooLarge);
        edges.edge("none such: WAGON too small", ErrorEdgesTest::wagonTooSmall);
        edges.edge("none such: WAGON too large", ErrorEdgesTest::wagonTooLarge);
        edges.edge("none such: no SIGHTS", ErrorEdgesTest::noSights);
        edges.edge("none such: no WAGONS", ErrorEdgesTest::noWagons);
        edges.edge("none such: SIGHTS that went", ErrorEdgesTest::sightsWent);
        edges.edge("the last SIGHT and the last WAGON are such", ErrorEdgesTest::lastOnes);
        edges.edge("0 places differ", ErrorEdgesTest::alike);
        edges.edge("1 place differs, each of the five", ErrorEdgesTest::onePlace);
        edges.edge("2 places differ, each two of the five", ErrorEdgesTest::twoPlaces);
        edges.edge("9 if it is above 2: three places", ErrorEdgesTest::threePlaces);
        edges.edge("9 if it is above 2: four and five places", ErrorEdgesTest::morePlaces);
        edges.edge("1 if two side by side are turned about, each two", ErrorEdgesTest::turnedAbout);
        edges.edge("side by side: two apart are 2", ErrorEdgesTest::turnedApart);
        edges.edge("just two: one place more is 9", ErrorEdgesTest::turnedAndOneMore);
        edges.edge("just two: two such twos are 9", ErrorEdgesTest::turnedTwice);
        edges.edge("turned about: one of them alone is not", ErrorEdgesTest::halfTurned);
        edges.edge("turned about with noughts and like digits", ErrorEdgesTest::turnedNoughts);
        edges.edge("it needs no day and no way", ErrorEdgesTest::noWayNeeded);
        edges.end();
    }

    private static WagonClearing one() {
        WagonClearing x = new WagonClearing();
        x.wagon(12345, 0);
        x.see(12345, 0, 0, 0);
        return x;
    }

    private static void error(Check check, int mark, int read, int want) {
        WagonClearing x = new WagonClearing();
        x.wagon(mark, 0);
        x.see(read, 0, 0, 0);
        check.due("error of " + read + " as " + mark, x.error(0, 0), want);
        WagonClearing y = new WagonClearing();
        y.wagon(read, 0);
        y.see(mark, 0, 0, 0);
        check.due("error of " + mark + " as " + read, y.error(0, 0), want);
    }

    private static void sightTooSmall(Check check) {
        for (int w : Wrong.below(0)) {
            check.due("error(" + w + ", 0)", one().error(w, 0), -1);
        }
    }

    private static void sightTooLarge(Check check) {
        for (int w : Wrong.above(0)) {
            check.due("error(" + w + ", 0)", one().error(w, 0), -1);
        }
        check.due("error(6, 0)", one().error(6, 0), -1);
        check.due("error(7, 0)", one().error(7, 0), -1);
    }

    private static void wagonTooSmall(Check check) {
        for (int w : Wrong.below(0)) {
            check.due("error(0, " + w + ")", one().error(0, w), -1);
        }
    }

    private static void wagonTooLarge(Check check) {
        for (int w : Wrong.above(0)) {
            check.due("error(0, " + w + ")", one().error(0, w), -1);
        }
        check.due("error(0, 3)", one().error(0, 3), -1);
        check.due("error(0, 4)", one().error(0, 4), -1);
    }

    private static void noSights(Check check) {
        WagonClearing x = new WagonClearing();
        x.wagon(12345, 0);
        check.due("error(0, 0)", x.error(0, 0), -1);
    }

    private static void noWagons(Check check) {
        WagonClearing x = new WagonClearing();
        x.see(12345, 0, 0, 0);
        check.due("error(0, 0)", x.error(0, 0), -1);
    }

    private static void sightsWent(Check check) {
        WagonClearing x = one();
        x.close();
        check.due("error(0, 0)", x.error(0, 0), -1);
    }

    private static void lastOnes(Check check) {
        WagonClearing x = new WagonClearing();
        for (int i = 0; i < 4; i++) {
            x.wagon(20000 + i, 0);
        }
        for (int i = 0; i < 7; i++) {
            x.see(20003, 0, 0, 0);
        }
        check.due("error(6, 3)", x.error(6, 3), 0);
        check.due("error(6, 4)", x.error(6, 4), -1);
        check.due("error(7, 3)", x.error(7, 3), -1);
    }

    private static void alike(Check check) {
        int[] marks = {10000, 12345, 55555, 99999};
        for (int mark : marks) {
            error(check, mark, mark, 0);
        }
    }

    private static void onePlace(Check check) {
        int place = 1;
        for (int i = 0; i < 5; i++) {
            error(check, 12345, 12345 + 4 * place, 1);
            error(check, 10000, 10000 + 8 * place, 1);
            place *= 10;
        }
    }

    private static void twoPlaces(Check check) {
        for (int one = 1; one <= 10000; one *= 10) {
            for (int two = one * 10; two <= 10000; two *= 10) {
                error(check, 11111, 11111 + 2 * one + 3 * two, 2);
                error(check, 11111, 11111 + 2 * one + 2 * two, 2);
            }
        }
    }

    private static void threePlaces(Check check) {
        for (int one = 1; one <= 10000; one *= 10) {
            for (int two = one * 10; two <= 10000; two *= 10) {
                for (int three = two * 10; three <= 10000; three *= 10) {
                    error(check, 11111, 11111 + 2 * one + 3 * two + 4 * three, 9);
                }
            }
        }
    }

    private static void morePlaces(Check check) {
        error(check, 12345, 12456 + 10000, 9);
        error(check, 12345, 17890, 9);
        error(check, 12345, 67895, 9);
        error(check, 12345, 67890, 9);
        error(check, 10000, 99999, 9);
    }

    private static void turnedAbout(Check check) {
        error(check, 12345, 21345, 1);
        error(check, 12345, 13245, 1);
        error(check, 12345, 12435, 1);
        error(check, 12345, 12354, 1);
    }

    private static void turnedApart(Check check) {
        error(check, 12345, 32145, 2);
        error(check, 12345, 14325, 2);
        error(check, 12345, 12543, 2);
        error(check, 12345, 42315, 2);
        error(check, 12345, 52341, 2);
    }

    private static void turnedAndOneMore(Check check) {
        error(check, 12345, 21346, 9);
        error(check, 12345, 92354, 9);
        error(check, 12345, 13246, 9);
        error(check, 12345, 23145, 9);
    }

    private static void turnedTwice(Check check) {
        error(check, 12345, 21435, 9);
        error(check, 12345, 21354, 9);
        error(check, 12345, 13254, 9);
    }

    // The two that differ are side by side, but one of them is not the other's.
    private static void halfTurned(Check check) {
        error(check, 12345, 12356, 2);
        error(check, 12345, 12394, 2);
        error(check, 12345, 12359, 2);
        error(check, 12345, 31345, 2);
        error(check, 12345, 12355, 1);
        error(check, 12345, 12344, 1);
    }

    private static void turnedNoughts(Check check) {
        error(check, 10100, 11000, 1);
        error(check, 10001, 10010, 1);
        error(check, 11211, 12111, 1);
        error(check, 90909, 90990, 1);
        error(check, 90909, 99009, 1);
        error(check, 90909, 99090, 9);
    }

    private static void noWayNeeded(Check check) {
        WagonClearing x = new WagonClearing();
        x.wagon(12345, 0);
        x.see(12345, 0, 0, 0);
        x.see(12346, 1, 0, 0);
        check.due("error(0, 0)", x.error(0, 0), 0);
        check.due("error(1, 0)", x.error(1, 0), 1);
    }
}
