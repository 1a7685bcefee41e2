/** Promise 7, wagon: its boundary cases, one test each. */
final class WagonEdgesTest {
    public static void main(String[] args) {
        Edges edges = new Edges("7 wagon");
        edges.edge("numbers as they come", WagonEdgesTest::numbers);
        edges.edge("a refused WAGON takes no number", WagonEdgesTest::refusedTakesNoNumber);
        edges.edge("MARK can't be: too small", WagonEdgesTest::markTooSmall);
        edges.edge("MARK can't be: too large", WagonEdgesTest::markTooLarge);
        edges.edge("MARK 10000 can be", WagonEdgesTest::leastMark);
        edges.edge("MARK 99999 can be", WagonEdgesTest::greatestMark);
        edges.edge("no two alike", WagonEdgesTest::alike);
        edges.edge("a refused WAGON's MARK is still free", WagonEdgesTest::refusedMarkIsFree);
        edges.edge("OWNER can't be: too small", WagonEdgesTest::ownerTooSmall);
        edges.edge("OWNER can't be: too large", WagonEdgesTest::ownerTooLarge);
        edges.edge("OWNERS 0 and 7 can be", WagonEdgesTest::outermostOwners);
        edges.edge("4 came", WagonEdgesTest::full);
        edges.edge("WAGONS stay when SIGHTS go", WagonEdgesTest::stayBeyondClose);
        edges.end();
    }

    private static void refused(Check check, int mark, int owner) {
        WagonClearing x = new WagonClearing();
        check.due("wagon(" + mark + ", " + owner + ")", x.wagon(mark, owner), -1);
        check.due("count(1)", x.count(1), 0);
    }

    private static void comes(Check check, int mark, int owner) {
        WagonClearing x = new WagonClearing();
        check.due("wagon(" + mark + ", " + owner + ")", x.wagon(mark, owner), 0);
        check.due("count(1)", x.count(1), 1);
        x.see(mark, 0, 0, 3);
        x.see(mark, 0, 3, 3);
        check.due("error(0, 0)", x.error(0, 0), 0);
        check.due("balance of the owner", x.balance(owner), 10);
    }

    private static void numbers(Check check) {
        WagonClearing x = new WagonClearing();
        for (int i = 0; i < 4; i++) {
            check.due("wagon " + i, x.wagon(99999 - i, i), i);
            check.due("count(1)", x.count(1), i + 1);
        }
    }

    private static void refusedTakesNoNumber(Check check) {
        WagonClearing x = new WagonClearing();
        x.wagon(11111, 0);
        x.wagon(9999, 0);
        x.wagon(11111, 0);
        x.wagon(22222, 8);
        check.due("the number behind three refused ones", x.wagon(33333, 0), 1);
    }

    private static void markTooSmall(Check check) {
        refused(check, 0, 0);
        refused(check, 1, 0);
        refused(check, -12345, 0);
        for (int w : Wrong.below(10000)) {
            refused(check, w, 0);
        }
    }

    private static void markTooLarge(Check check) {
        for (int w : Wrong.above(99999)) {
            refused(check, w, 0);
        }
    }

    private static void leastMark(Check check) {
        comes(check, 10000, 1);
    }

    private static void greatestMark(Check check) {
        comes(check, 99999, 1);
    }

    private static void alike(Check check) {
        WagonClearing x = new WagonClearing();
        int[] marks = {10000, 12345, 99999};
        for (int mark : marks) {
            x.wagon(mark, 0);
        }
        for (int mark : marks) {
            check.due("wagon(" + mark + ", 0)", x.wagon(mark, 0), -1);
            check.due("of another owner: wagon(" + mark + ", 5)", x.wagon(mark, 5), -1);
        }
        check.due("count(1)", x.count(1), 3);
        check.due("one place differs", x.wagon(12346, 0), 3);
    }

    private static void refusedMarkIsFree(Check check) {
        WagonClearing x = new WagonClearing();
        check.due("wagon(12345, 8)", x.wagon(12345, 8), -1);
        check.due("wagon(12345, 7)", x.wagon(12345, 7), 0);
    }

    private static void ownerTooSmall(Check check) {
        for (int w : Wrong.below(0)) {
            refused(check, 12345, w);
        }
    }

    private static void ownerTooLarge(Check check) {
        for (int w : Wrong.above(7)) {
            refused(check, 12345, w);
        }
    }

    private static void outermostOwners(Check check) {
        comes(check, 12345, 0);
        comes(check, 12345, 7);
    }

    private static void full(Check check) {
        WagonClearing x = new WagonClearing();
        for (int i = 0; i < 3; i++) {
            x.wagon(20000 + i, 0);
        }
        check.due("the fourth", x.wagon(30000, 0), 3);
        check.due("a fifth", x.wagon(98765, 0), -1);
        check.due("another", x.wagon(50000, 7), -1);
        check.due("count(1)", x.count(1), 4);
        x.see(98765, 0, 0, 0);
        check.due("the fifth is nobody's", x.whose(0), -1);
        check.due("error(0, 4)", x.error(0, 4), -1);
    }

    private static void stayBeyondClose(Check check) {
        WagonClearing x = new WagonClearing();
        for (int i = 0; i < 4; i++) {
            x.wagon(20000 + i, 0);
        }
        x.see(20000, 0, 0, 0);
        x.close();
        check.due("count(1)", x.count(1), 4);
        check.due("a fifth, after close", x.wagon(40000, 0), -1);
    }
}
