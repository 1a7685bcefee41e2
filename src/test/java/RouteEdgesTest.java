/** Promise 4, route: its boundary cases, one test each. */
final class RouteEdgesTest {
    public static void main(String[] args) {
        Edges edges = new Edges("4 route");
        edges.edge("none from one to itself", RouteEdgesTest::itself);
        edges.edge("none where there is no way", RouteEdgesTest::noWay);
        edges.edge("none from what is no JUNCTION", RouteEdgesTest::wrongFrom);
        edges.edge("none to what is no JUNCTION", RouteEdgesTest::wrongTo);
        edges.edge("by which LEAST comes out", RouteEdgesTest::leastComesOut);
        edges.edge("next to it: a LINE elsewhere is not taken", RouteEdgesTest::nextToIt);
        edges.edge("of several that to the least JUNCTION", RouteEdgesTest::leastJunction);
        edges.edge("the least JUNCTION, though it is not the end", RouteEdgesTest::notTheEnd);
        edges.edge("of several there that of the least number", RouteEdgesTest::leastNumber);
        edges.edge("the least JUNCTION goes before the least number", RouteEdgesTest::junctionFirst);
        edges.edge("a longer LINE with a lesser number is not taken", RouteEdgesTest::longerOne);
        edges.edge("each time anew: back it may be another", RouteEdgesTest::eachTimeAnew);
        edges.edge("the first and the last LINE, 0 and 23", RouteEdgesTest::firstAndLast);
        edges.end();
    }

    private static WagonClearing ring() {
        WagonClearing x = new WagonClearing();
        for (int i = 0; i < 12; i++) {
            x.line(i, (i + 1) % 12, 0, 10);
        }
        return x;
    }

    private static void itself(Check check) {
        WagonClearing x = ring();
        for (int junction = 0; junction < 12; junction++) {
            check.due("route(" + junction + ", itself)", x.route(junction, junction), -1);
        }
    }

    private static void noWay(Check check) {
        WagonClearing x = new WagonClearing();
        x.line(0, 1, 0, 1);
        x.line(2, 3, 0, 1);
        check.due("route(0, 2)", x.route(0, 2), -1);
        check.due("route(3, 1)", x.route(3, 1), -1);
        check.due("route(0, 11)", x.route(0, 11), -1);
        check.due("route(11, 0)", x.route(11, 0), -1);
    }

    private static void wrongFrom(Check check) {
        WagonClearing x = ring();
        for (int w : Wrong.outside(0, 11)) {
            for (int junction = 0; junction < 12; junction++) {
                check.due("route(" + w + ", " + junction + ")", x.route(w, junction), -1);
            }
            check.due("route(" + w + ", itself)", x.route(w, w), -1);
        }
    }

    private static void wrongTo(Check check) {
        WagonClearing x = ring();
        for (int w : Wrong.outside(0, 11)) {
            for (int junction = 0; junction < 12; junction++) {
                check.due("route(" + junction + ", " + w + ")", x.route(junction, w), -1);
            }
        }
    }

    private static void leastComesOut(Check check) {
        WagonClearing x = new WagonClearing();
        x.line(0, 2, 0, 21);
        x.line(0, 1, 0, 10);
        x.line(1, 2, 0, 10);
        check.due("route(0, 2), one mile less by another junction", x.route(0, 2), 1);
        x.line(0, 2, 0, 19);
        check.due("route(0, 2), one mile less by itself", x.route(0, 2), 3);
    }

    // 3 miles from 4 to 5 and 7 from 0 to 3 are as many as the 10 from 2 to 3, but elsewhere.
    private static void nextToIt(Check check) {
        WagonClearing x = new WagonClearing();
        x.line(4, 5, 0, 3);
        x.line(0, 3, 0, 7);
        x.line(2, 3, 0, 10);
        check.due("route(2, 3)", x.route(2, 3), 2);
        check.due("route(3, 2)", x.route(3, 2), 2);
    }

    private static void leastJunction(Check check) {
        WagonClearing x = new WagonClearing();
        x.line(0, 7, 0, 10);
        x.line(7, 9, 0, 10);
        x.line(0, 5, 0, 12);
        x.line(5, 9, 0, 8);
        x.line(0, 6, 0, 1);
        x.line(6, 9, 0, 19);
        check.due("route(0, 9) by 5, 6 or 7", x.route(0, 9), 2);
    }

    private static void notTheEnd(Check check) {
        WagonClearing x = new WagonClearing();
        x.line(1, 9, 0, 20);
        x.line(1, 4, 0, 10);
        x.line(4, 9, 0, 10);
        check.due("route(1, 9) by 4, though the first line goes to 9", x.route(1, 9), 1);
        check.due("route(9, 1) straight, as 1 is less than 4", x.route(9, 1), 0);
    }

    private static void leastNumber(Check check) {
        WagonClearing x = new WagonClearing();
        x.line(5, 6, 0, 30);
        x.line(6, 5, 1, 20);
        x.line(5, 6, 2, 20);
        x.line(6, 5, 3, 20);
        check.due("route(5, 6)", x.route(5, 6), 1);
        check.due("route(6, 5)", x.route(6, 5), 1);
    }

    private static void junctionFirst(Check check) {
        WagonClearing x = new WagonClearing();
        x.line(0, 8, 0, 10);
        x.line(8, 9, 0, 10);
        x.line(3, 9, 0, 10);
        x.line(3, 0, 0, 10);
        x.line(0, 3, 0, 10);
        check.due("route(0, 9)", x.route(0, 9), 3);
    }

    private static void longerOne(Check check) {
        WagonClearing x = new WagonClearing();
        x.line(0, 1, 0, 11);
        x.line(0, 1, 0, 10);
        x.line(1, 2, 0, 5);
        check.due("route(0, 2)", x.route(0, 2), 1);
        check.due("route(0, 1)", x.route(0, 1), 1);
    }

    // From 0 by 1 (then 5), from 9 by 4 (then 8): each time the least junction next to where it is.
    private static void eachTimeAnew(Check check) {
        WagonClearing x = new WagonClearing();
        x.line(0, 1, 0, 10);
        x.line(1, 5, 1, 10);
        x.line(5, 9, 2, 10);
        x.line(9, 4, 3, 10);
        x.line(4, 8, 4, 10);
        x.line(8, 0, 5, 10);
        check.due("route(0, 9)", x.route(0, 9), 0);
        check.due("route(1, 9)", x.route(1, 9), 1);
        check.due("route(9, 0)", x.route(9, 0), 3);
        check.due("route(4, 0)", x.route(4, 0), 4);
    }

    private static void firstAndLast(Check check) {
        WagonClearing x = new WagonClearing();
        x.line(0, 1, 0, 50);
        for (int i = 1; i < 23; i++) {
            x.line(2, 3, 0, 10);
        }
        x.line(10, 11, 0, 10);
        check.due("route(0, 1)", x.route(0, 1), 0);
        check.due("route(11, 10)", x.route(11, 10), 23);
    }
}
