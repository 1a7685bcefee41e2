import java.util.ArrayList;
import java.util.List;

/** "What is refused changes nothing": each refused call beside an object that never had it. */
final class RefusedEdgesTest {
    /** One call on an object; what it answers, a boolean as 1 or 0. */
    interface Call {
        int on(WagonClearing x);
    }

    private static final int NO = 0;
    private static final int NONE = -1;

    private final Edges edges = new Edges("what is refused changes nothing");

    public static void main(String[] args) {
        RefusedEdgesTest test = new RefusedEdgesTest();
        test.lines();
        test.books();
        test.wagons();
        test.sights();
        test.terms();
        test.empties();
        test.questions();
        test.fullOnes();
        test.edges.end();
    }

    private static int bit(boolean answer) {
        return answer ? 1 : 0;
    }

    /** Something of everything, and room for more; junction 11 has no line. */
    private static WagonClearing ordinary() {
        WagonClearing x = new WagonClearing();
        for (int i = 0; i < 10; i++) {
            x.line(i, i + 1, i % 8, 30 + i);
        }
        x.book(0, 9, 1003, 2);
        x.book(4, 1, 77, 7);
        x.wagon(12345, 0);
        x.wagon(12354, 3);
        x.see(12345, 0, 10, 1);
        x.see(12435, 3, 20, 2);
        x.see(12355, 3, 25, 4);
        x.terms(1, 13);
        x.empties(0, 5, 1);
        x.empties(4, 0, 3);
        x.empties(9, 1, 4);
        return x;
    }

    /** As many lines, wagons and sights as can be. */
    private static WagonClearing full() {
        WagonClearing x = ordinary();
        for (int i = 10; i < 24; i++) {
            x.line(i % 10, (i + 3) % 10, i % 8, 90 + i);
        }
        x.wagon(45678, 5);
        x.wagon(45687, 6);
        for (int i = 3; i < 7; i++) {
            x.see(i % 2 == 0 ? 45678 : 12345, i, 30 + 4 * i, i);
        }
        return x;
    }

    /** Every answer that the object can give, by fewer than 400 calls. */
    private static List<Integer> answers(WagonClearing x) {
        List<Integer> all = new ArrayList<>();
        for (int what = 0; what < 6; what++) {
            all.add(x.count(what));
        }
        for (int a = 0; a < 12; a++) {
            for (int b = 0; b < 12; b++) {
                all.add(x.least(a, b));
                all.add(x.route(a, b));
            }
        }
        for (int sight = 0; sight < 7; sight++) {
            all.add(x.whose(sight));
            for (int wagon = 0; wagon < 4; wagon++) {
                all.add(x.error(sight, wagon));
            }
        }
        for (int company = 0; company < 8; company++) {
            all.add(x.balance(company));
            all.add(x.group(company));
            for (int wagon = 0; wagon < 4; wagon++) {
                all.add(x.charge(wagon, company));
            }
        }
        all.add(x.cost());
        all.add(x.fewest());
        all.add(x.met());
        all.add(x.led());
        return all;
    }

    /** What comes next: numbers, the latest day, and what hangs on them. */
    private static List<Integer> next(WagonClearing x) {
        List<Integer> all = new ArrayList<>();
        all.add(x.line(2, 7, 6, 20));
        all.add(x.wagon(12346, 7));
        all.add(x.see(12346, 3, 25, 5));
        all.add(bit(x.book(0, 9, 5005, 1)));
        all.add(x.part(0, 9, 5005, 6));
        all.add(x.cost());
        all.add(x.led());
        all.add(x.close());
        for (int company = 0; company < 8; company++) {
            all.add(x.balance(company));
        }
        for (int what = 0; what < 6; what++) {
            all.add(x.count(what));
        }
        return all;
    }

    private static void compare(Check check, WagonClearing x, WagonClearing twin, Call call, int want) {
        // What was worked out before the call must not be spoilt by it either.
        check.due("cost()", x.cost(), twin.cost());
        check.due("led()", x.led(), twin.led());
        check.due("the refused call", call.on(x), want);
        check.due("all answers are as without it", answers(x).equals(answers(twin)), true);
        check.due("all later answers are too", next(x).equals(next(twin)), true);
    }

    private void refused(String words, int want, Call call) {
        edges.edge(words, check -> {
            compare(check, ordinary(), ordinary(), call, want);
            compare(check, full(), full(), call, want);
            compare(check, new WagonClearing(), new WagonClearing(), call, want);
        });
    }

    private void refusedWhenFull(String words, int want, Call call) {
        edges.edge(words, check -> compare(check, full(), full(), call, want));
    }

    private void refusedWhenOrdinary(String words, int want, Call call) {
        edges.edge(words, check -> compare(check, ordinary(), ordinary(), call, want));
    }

    private void lines() {
        refused("line from -1", NONE, x -> x.line(-1, 1, 0, 1));
        refused("line from 12", NONE, x -> x.line(12, 1, 0, 1));
        refused("line to -1", NONE, x -> x.line(1, -1, 0, 1));
        refused("line to 12", NONE, x -> x.line(1, 12, 0, 1));
        refused("line to itself", NONE, x -> x.line(5, 5, 0, 1));
        refused("line of company -1", NONE, x -> x.line(0, 9, -1, 1));
        refused("line of company 8", NONE, x -> x.line(0, 9, 8, 1));
        refused("line of 0 miles", NONE, x -> x.line(0, 9, 0, 0));
        refused("line of -1 miles", NONE, x -> x.line(0, 9, 0, -1));
        refused("line of 201 miles", NONE, x -> x.line(0, 11, 0, 201));
    }

    private void books() {
        refused("book from -1", NO, x -> bit(x.book(-1, 1, 100, 0)));
        refused("book from 12", NO, x -> bit(x.book(12, 1, 100, 0)));
        refused("book to -1", NO, x -> bit(x.book(1, -1, 100, 0)));
        refused("book to 12", NO, x -> bit(x.book(1, 12, 100, 0)));
        refused("book to itself", NO, x -> bit(x.book(1, 1, 100, 0)));
        refused("book without a way", NO, x -> bit(x.book(1, 11, 100, 0)));
        refused("book of -1", NO, x -> bit(x.book(0, 3, -1, 0)));
        refused("book of 1000001", NO, x -> bit(x.book(0, 3, 1000001, 0)));
        refused("book by company -1", NO, x -> bit(x.book(0, 3, 100, -1)));
        refused("book by company 8", NO, x -> bit(x.book(0, 3, 100, 8)));
    }

    private void wagons() {
        refused("wagon of mark 9999", NONE, x -> x.wagon(9999, 0));
        refused("wagon of mark 100000", NONE, x -> x.wagon(100000, 0));
        refused("wagon of owner -1", NONE, x -> x.wagon(12355, -1));
        refused("wagon of owner 8", NONE, x -> x.wagon(12355, 8));
        refusedWhenOrdinary("wagon of a mark that is", NONE, x -> x.wagon(12345, 5));
    }

    private void sights() {
        refused("see of mark 9999", NONE, x -> x.see(9999, 3, 900, 5));
        refused("see of mark 100000", NONE, x -> x.see(100000, 3, 900, 5));
        refused("see at junction -1", NONE, x -> x.see(12345, -1, 900, 5));
        refused("see at junction 12", NONE, x -> x.see(12345, 12, 900, 5));
        refused("see on day -1", NONE, x -> x.see(12345, 3, -1, 5));
        refused("see on day 1000", NONE, x -> x.see(12345, 3, 1000, 5));
        refused("see by company -1", NONE, x -> x.see(12345, 3, 900, -1));
        refused("see by company 8", NONE, x -> x.see(12345, 3, 900, 8));
        refusedWhenOrdinary("see on a day below the latest", NONE, x -> x.see(12345, 3, 24, 5));
    }

    private void terms() {
        refused("terms of free -1", NO, x -> bit(x.terms(-1, 50)));
        refused("terms of free 31", NO, x -> bit(x.terms(31, 50)));
        refused("terms of price -1", NO, x -> bit(x.terms(0, -1)));
        refused("terms of price 101", NO, x -> bit(x.terms(0, 101)));
    }

    private void empties() {
        refused("empties at junction -1", NO, x -> bit(x.empties(-1, 3, 3)));
        refused("empties at junction 12", NO, x -> bit(x.empties(12, 3, 3)));
        refused("empties of -1", NO, x -> bit(x.empties(0, -1, 7)));
        refused("empties of 10", NO, x -> bit(x.empties(0, 10, 7)));
        refused("empties of -1 wanted", NO, x -> bit(x.empties(0, 7, -1)));
        refused("empties of 10 wanted", NO, x -> bit(x.empties(0, 7, 10)));
    }

    private void questions() {
        refused("least of 12", NONE, x -> x.least(12, 0));
        refused("route of -1", NONE, x -> x.route(0, -1));
        refused("part of 1000001", NONE, x -> x.part(0, 3, 1000001, 0));
        refused("part of company 8", NONE, x -> x.part(0, 3, 100, 8));
        refused("error of sight 7", NONE, x -> x.error(7, 0));
        refused("error of wagon 4", NONE, x -> x.error(0, 4));
        refused("whose of sight 7", NONE, x -> x.whose(7));
        refused("charge of wagon 4", 0, x -> x.charge(4, 0));
        refused("charge of company 8", 0, x -> x.charge(0, 8));
        refused("balance of company 8", 0, x -> x.balance(8));
        refused("group of company 8", 0, x -> x.group(8));
        refused("count of 6", NONE, x -> x.count(6));
    }

    private void fullOnes() {
        refusedWhenFull("a 25th line", NONE, x -> x.line(0, 9, 0, 1));
        refusedWhenFull("a fifth wagon", NONE, x -> x.wagon(12355, 1));
        refusedWhenFull("an eighth sight", NONE, x -> x.see(12345, 3, 900, 5));
    }
}
