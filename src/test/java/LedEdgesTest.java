/** Promise 20, led: its boundary cases, one test each. */
final class LedEdgesTest {
    public static void main(String[] args) {
        Edges edges = new Edges("20 led");
        edges.edge("none met: 0", LedEdgesTest::none);
        edges.edge("met at the same JUNCTION: 0", LedEdgesTest::sameJunction);
        edges.edge("the least: 1", LedEdgesTest::oneMile);
        edges.edge("the longest way: 9 times 2200", LedEdgesTest::longestWay);
        edges.edge("by LEAST, not by the straight LINE", LedEdgesTest::byLeast);
        edges.edge("as many as can be goes before fewer miles", LedEdgesTest::manyFirst);
        edges.edge("as many as can be, though own EMPTIES would be nearer", LedEdgesTest::ownOnes);
        edges.edge("of several EMPTIES the nearer ones", LedEdgesTest::nearerEmpties);
        edges.edge("of several WANTS the nearer ones", LedEdgesTest::nearerWants);
        edges.edge("the least sum, though the nearest go farther", LedEdgesTest::leastSum);
        edges.edge("the least sum: a chain of such changes", LedEdgesTest::chainOfChanges);
        edges.edge("the least sum: no more is changed than went", LedEdgesTest::noMoreThanWent);
        edges.edge("the least sum: what was found before is not changed", LedEdgesTest::foundBefore);
        edges.edge("a WANT met from two JUNCTIONS, EMPTIES led to two", LedEdgesTest::partedOnes);
        edges.edge("a shorter LINE changes it", LedEdgesTest::shorterLine);
        edges.end();
    }

    private static void answers(Check check, WagonClearing x, int met, int led) {
        check.due("met()", x.met(), met);
        check.due("led()", x.led(), led);
    }

    private static WagonClearing chain(int... miles) {
        WagonClearing x = new WagonClearing();
        for (int i = 0; i < miles.length; i++) {
            x.line(i, i + 1, 0, miles[i]);
        }
        return x;
    }

    private static void none(Check check) {
        WagonClearing x = chain(10, 10);
        answers(check, x, 0, 0);
        x.empties(0, 9, 0);
        answers(check, x, 0, 0);
        x.empties(11, 0, 9);
        answers(check, x, 0, 0);
    }

    private static void sameJunction(Check check) {
        WagonClearing x = chain(1, 1);
        x.empties(0, 3, 3);
        x.empties(1, 9, 9);
        x.empties(2, 1, 1);
        answers(check, x, 13, 0);
    }

    private static void oneMile(Check check) {
        WagonClearing x = chain(1);
        x.empties(0, 1, 0);
        x.empties(1, 0, 1);
        answers(check, x, 1, 1);
    }

    private static void longestWay(Check check) {
        WagonClearing x = chain(200, 200, 200, 200, 200, 200, 200, 200, 200, 200, 200);
        x.empties(0, 9, 0);
        x.empties(11, 0, 9);
        answers(check, x, 9, 9 * 2200);
    }

    private static void byLeast(Check check) {
        WagonClearing x = chain(10, 10);
        x.line(0, 2, 0, 21);
        x.empties(0, 3, 0);
        x.empties(2, 0, 3);
        answers(check, x, 3, 60);
    }

    // The near want alone would be 1 mile; both are met.
    private static void manyFirst(Check check) {
        WagonClearing x = chain(200, 200, 1, 200, 200);
        x.empties(2, 1, 0);
        x.empties(3, 0, 1);
        x.empties(5, 1, 0);
        x.empties(0, 0, 1);
        answers(check, x, 2, 800);
    }

    private static void ownOnes(Check check) {
        WagonClearing x = chain(50);
        x.empties(0, 1, 1);
        x.empties(1, 0, 1);
        answers(check, x, 1, 0);
        x.empties(0, 2, 1);
        answers(check, x, 2, 50);
        x.empties(0, 9, 9);
        x.empties(1, 1, 3);
        answers(check, x, 10, 0);
    }

    private static void nearerEmpties(Check check) {
        WagonClearing x = chain(30, 20);
        x.empties(0, 9, 0);
        x.empties(2, 2, 0);
        x.empties(1, 0, 3);
        answers(check, x, 3, 2 * 20 + 30);
        WagonClearing y = chain(20, 30);
        y.empties(0, 2, 0);
        y.empties(2, 9, 0);
        y.empties(1, 0, 3);
        answers(check, y, 3, 2 * 20 + 30);
    }

    private static void nearerWants(Check check) {
        WagonClearing x = chain(30, 20);
        x.empties(1, 3, 0);
        x.empties(0, 0, 9);
        x.empties(2, 0, 2);
        answers(check, x, 3, 2 * 20 + 30);
        WagonClearing y = chain(20, 30);
        y.empties(1, 3, 0);
        y.empties(0, 0, 2);
        y.empties(2, 0, 9);
        answers(check, y, 3, 2 * 20 + 30);
    }

    // 1's empty is 5 from 2, but 3 can only be reached well from 1; so 0's goes to 2.
    private static void leastSum(Check check) {
        WagonClearing x = new WagonClearing();
        x.line(0, 2, 0, 10);
        x.line(1, 2, 0, 5);
        x.line(1, 3, 0, 20);
        x.empties(0, 1, 0);
        x.empties(1, 1, 0);
        x.empties(2, 0, 1);
        answers(check, x, 1, 5);
        x.empties(3, 0, 1);
        answers(check, x, 2, 30);
    }

    // Givers 0, 2, 4 and takers 1, 3, 5 in a row: each nearest pair is taken apart again.
    private static void chainOfChanges(Check check) {
        WagonClearing x = chain(100, 10, 100, 10, 100);
        x.empties(0, 1, 0);
        x.empties(1, 0, 1);
        x.empties(2, 1, 0);
        x.empties(3, 0, 1);
        x.empties(4, 1, 0);
        answers(check, x, 2, 20);
        x.empties(5, 0, 1);
        answers(check, x, 3, 300);
        WagonClearing y = chain(100, 10, 100, 10, 100);
        y.empties(5, 1, 0);
        y.empties(4, 0, 1);
        y.empties(3, 1, 0);
        y.empties(2, 0, 1);
        y.empties(1, 1, 0);
        answers(check, y, 2, 20);
        y.empties(0, 0, 1);
        answers(check, y, 3, 300);
    }

    private static void noMoreThanWent(Check check) {
        WagonClearing x = new WagonClearing();
        x.line(0, 2, 0, 10);
        x.line(1, 2, 0, 5);
        x.line(1, 3, 0, 20);
        x.empties(0, 5, 0);
        x.empties(1, 1, 0);
        x.empties(2, 0, 1);
        x.empties(3, 0, 3);
        answers(check, x, 4, 10 + 20 + 2 * 35);
    }

    // The one that went from 1 to 2 by the first answer must not count in the second.
    private static void foundBefore(Check check) {
        WagonClearing x = new WagonClearing();
        x.line(0, 2, 0, 10);
        x.line(1, 2, 0, 5);
        x.line(1, 3, 0, 20);
        x.empties(1, 1, 0);
        x.empties(2, 0, 1);
        answers(check, x, 1, 5);
        x.empties(0, 2, 0);
        x.empties(3, 0, 2);
        answers(check, x, 3, 10 + 20 + 35);
    }

    private static void partedOnes(Check check) {
        WagonClearing x = chain(7, 11, 13);
        x.empties(0, 2, 0);
        x.empties(1, 0, 5);
        x.empties(2, 6, 0);
        x.empties(3, 0, 3);
        answers(check, x, 8, 2 * 7 + 3 * 11 + 3 * 13);
    }

    private static void shorterLine(Check check) {
        WagonClearing x = chain(30);
        x.empties(0, 2, 0);
        x.empties(1, 0, 2);
        answers(check, x, 2, 60);
        x.line(1, 0, 0, 31);
        answers(check, x, 2, 60);
        x.line(1, 0, 0, 29);
        answers(check, x, 2, 58);
    }
}
