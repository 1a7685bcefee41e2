/** Promise 1: a new object has no lines, wagons, sights, and nothing booked. */
final class NewObjectTest {
    public static void main(String[] args) {
        Check check = new Check();
        WagonClearing x = new WagonClearing();
        for (int what = 0; what <= 5; what++) {
            check.due("count(" + what + ")", x.count(what), 0);
        }
        for (int company = 0; company < 8; company++) {
            check.due("balance(" + company + ")", x.balance(company), 0);
            check.due("group(" + company + ")", x.group(company), 0);
        }
        for (int a = 0; a < 12; a++) {
            for (int b = 0; b < 12; b++) {
                check.due("least(" + a + ", " + b + ")", x.least(a, b), a == b ? 0 : -1);
                check.due("route(" + a + ", " + b + ")", x.route(a, b), -1);
            }
        }
        check.due("cost()", x.cost(), 0);
        check.due("whose(0)", x.whose(0), -1);
        check.due("error(0, 0)", x.error(0, 0), -1);
        check.due("charge(0, 0)", x.charge(0, 0), 0);
        check.due("fewest()", x.fewest(), 0);
        check.due("met()", x.met(), 0);
        check.due("led()", x.led(), 0);
        check.due("close()", x.close(), 0);
        twoObjectsAreApart(check);
        check.end();
    }

    private static void twoObjectsAreApart(Check check) {
        WagonClearing one = new WagonClearing();
        one.line(0, 1, 2, 10);
        one.book(0, 1, 100, 3);
        one.wagon(12345, 0);
        one.see(12345, 0, 0, 0);
        one.empties(0, 1, 1);
        WagonClearing other = new WagonClearing();
        for (int what = 0; what <= 5; what++) {
            check.due("count(" + what + ") of the other object", other.count(what), 0);
        }
        check.due("least(0, 1) of the other object", other.least(0, 1), -1);
        check.due("balance(2) of the other object", other.balance(2), 0);
    }
}
