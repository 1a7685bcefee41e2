/** Promises 18, 19 and 20: empties, met, led. */
final class EmptiesTest {
    public static void main(String[] args) {
        Check check = new Check();
        ordinaryOnes(check);
        moreWantsBeforeLessMiles(check);
        takenBack(check);
        onlyWhereThereIsAWay(check);
        manyOfThem(check);
        wrongOnes(check);
        check.end();
    }

    private static void answers(Check check, WagonClearing x, int met, int led) {
        check.due("met()", x.met(), met);
        check.due("led()", x.led(), led);
    }

    private static void ordinaryOnes(Check check) {
        WagonClearing x = new WagonClearing();
        check.due("empties(0, 9, 9)", x.empties(0, 9, 9), true);
        answers(check, x, 9, 0);
        check.due("empties(0, 3, 0)", x.empties(0, 3, 0), true);
        answers(check, x, 0, 0);
        x.empties(11, 0, 2);
        answers(check, x, 0, 0);
        x.line(0, 11, 0, 150);
        answers(check, x, 2, 300);
        x.line(0, 11, 0, 20);
        answers(check, x, 2, 40);
        x.empties(11, 1, 2);
        answers(check, x, 2, 20);
        x.empties(11, 0, 9);
        answers(check, x, 3, 60);
        x.empties(0, 0, 0);
        answers(check, x, 0, 0);
    }

    private static void moreWantsBeforeLessMiles(Check check) {
        WagonClearing x = new WagonClearing();
        x.line(0, 1, 0, 1);
        x.line(1, 2, 0, 200);
        x.empties(0, 2, 0);
        x.empties(1, 0, 1);
        x.empties(2, 0, 1);
        answers(check, x, 2, 202);
        x.empties(0, 1, 0);
        answers(check, x, 1, 1);
    }

    // 1's empty lies nearest to 2, but led to 3 it spares 0's the longer way there.
    private static void takenBack(Check check) {
        WagonClearing x = new WagonClearing();
        x.line(0, 2, 0, 10);
        x.line(1, 2, 0, 5);
        x.line(1, 3, 0, 20);
        x.line(0, 4, 0, 200);
        x.line(4, 3, 0, 200);
        x.empties(0, 1, 0);
        x.empties(1, 1, 0);
        x.empties(2, 0, 1);
        x.empties(3, 0, 1);
        answers(check, x, 2, 30);
        // Only one went from 1 to 2, so only one can be taken back; 0's two others go to 3.
        x.empties(0, 5, 0);
        x.empties(3, 0, 3);
        answers(check, x, 4, 10 + 20 + 2 * 35);
    }

    private static void onlyWhereThereIsAWay(Check check) {
        WagonClearing x = new WagonClearing();
        x.line(0, 1, 0, 3);
        x.line(2, 3, 0, 4);
        x.empties(0, 5, 0);
        x.empties(1, 0, 2);
        x.empties(2, 1, 0);
        x.empties(3, 0, 9);
        answers(check, x, 3, 10);
        x.line(1, 2, 0, 100);
        answers(check, x, 6, 2 * 3 + 4 + 3 * 107);
    }

    private static void manyOfThem(Check check) {
        WagonClearing x = new WagonClearing();
        for (int i = 0; i < 11; i++) {
            x.line(i, i + 1, 0, 200);
        }
        for (int i = 0; i < 12; i++) {
            x.empties(i, i < 6 ? 9 : 0, i < 6 ? 0 : 9);
        }
        answers(check, x, 54, 54 * 1200);
        check.due("count(4)", x.count(4), 54);
        check.due("count(5)", x.count(5), 54);
        for (int i = 0; i < 12; i++) {
            x.empties(i, 9, 9);
        }
        answers(check, x, 108, 0);
    }

    private static void wrongOnes(Check check) {
        WagonClearing x = new WagonClearing();
        x.empties(0, 2, 1);
        int[][] wrong = {
            {-1, 1, 1}, {12, 1, 1}, {0, -1, 1}, {0, 10, 1}, {0, 1, -1}, {0, 1, 10},
            {Integer.MIN_VALUE, 1, 1}, {Integer.MAX_VALUE, 1, 1}, {0, Integer.MAX_VALUE, 1},
            {0, 1, Integer.MIN_VALUE}, {0, 9, 10}, {0, 10, 9},
        };
        for (int[] w : wrong) {
            check.due("wrong empties", x.empties(w[0], w[1], w[2]), false);
            check.due("count(4)", x.count(4), 2);
            check.due("count(5)", x.count(5), 1);
            answers(check, x, 1, 0);
        }
    }
}
