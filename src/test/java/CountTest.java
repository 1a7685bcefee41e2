/** Promise 21: count. */
final class CountTest {
    public static void main(String[] args) {
        Check check = new Check();
        WagonClearing x = new WagonClearing();
        x.line(0, 1, 0, 1);
        counts(check, x, 1, 0, 0, 0, 0, 0);
        x.wagon(12345, 0);
        x.wagon(12346, 0);
        counts(check, x, 1, 2, 0, 0, 0, 0);
        x.see(12345, 0, 0, 1);
        x.see(12345, 0, 9, 1);
        x.see(12345, 0, 9, 1);
        counts(check, x, 1, 2, 3, 0, 0, 0);
        for (int i = 0; i < 4; i++) {
            x.book(0, 1, i, 2);
        }
        counts(check, x, 1, 2, 3, 4, 0, 0);
        x.empties(3, 5, 6);
        x.empties(4, 1, 0);
        x.empties(5, 0, 1);
        counts(check, x, 1, 2, 3, 4, 6, 7);
        x.empties(3, 0, 0);
        counts(check, x, 1, 2, 3, 4, 1, 1);
        x.met();
        x.part(0, 1, 10, 0);
        counts(check, x, 1, 2, 3, 4, 1, 1);
        x.close();
        counts(check, x, 1, 2, 0, 4, 1, 1);
        int[] wrong = {-1, 6, 7, 12, Integer.MIN_VALUE, Integer.MAX_VALUE};
        for (int w : wrong) {
            check.due("count(" + w + ")", x.count(w), -1);
        }
        check.end();
    }

    private static void counts(Check check, WagonClearing x, int... want) {
        for (int what = 0; what < want.length; what++) {
            check.due("count(" + what + ")", x.count(what), want[what]);
        }
    }
}
