/** Promise 19, met: its boundary cases, one test each. */
final class MetEdgesTest {
    public static void main(String[] args) {
        Edges edges = new Edges("19 met");
        edges.edge("no EMPTIES, no WANTS: 0", MetEdgesTest::none);
        edges.edge("EMPTIES alone: 0", MetEdgesTest::emptiesAlone);
        edges.edge("WANTS alone: 0", MetEdgesTest::wantsAlone);
        edges.edge("at the same JUNCTION, without any LINE", MetEdgesTest::sameJunction);
        edges.edge("where there is a way: over many JUNCTIONS", MetEdgesTest::farAway);
        edges.edge("no way: not met", MetEdgesTest::noWay);
        edges.edge("as many WANTS as can be: fewer EMPTIES", MetEdgesTest::fewerEmpties);
        edges.edge("as many WANTS as can be: fewer WANTS", MetEdgesTest::fewerWants);
        edges.edge("each part of the LINES by itself", MetEdgesTest::partsApart);
        edges.edge("the most: all 108", MetEdgesTest::theMost);
        edges.edge("the most that are led: 54", MetEdgesTest::theMostLed);
        edges.edge("a new LINE, or new EMPTIES, change it", MetEdgesTest::changes);
        edges.edge("leading is not done: asking twice is the same", MetEdgesTest::askedTwice);
        edges.end();
    }

    private static void none(Check check) {
        WagonClearing x = new WagonClearing();
        check.due("met() of a new object", x.met(), 0);
        x.line(0, 1, 0, 10);
        check.due("met() with a line", x.met(), 0);
        x.empties(0, 0, 0);
        check.due("met() with noughts", x.met(), 0);
    }

    private static void emptiesAlone(Check check) {
        WagonClearing x = new WagonClearing();
        x.line(0, 1, 0, 10);
        x.empties(0, 9, 0);
        x.empties(1, 9, 0);
        check.due("met()", x.met(), 0);
    }

    private static void wantsAlone(Check check) {
        WagonClearing x = new WagonClearing();
        x.line(0, 1, 0, 10);
        x.empties(0, 0, 9);
        x.empties(1, 0, 9);
        check.due("met()", x.met(), 0);
    }

    private static void sameJunction(Check check) {
        for (int junction = 0; junction < 12; junction++) {
            WagonClearing x = new WagonClearing();
            x.empties(junction, 4, 6);
            check.due("met() at " + junction, x.met(), 4);
        }
    }

    private static WagonClearing chain() {
        WagonClearing x = new WagonClearing();
        for (int i = 0; i < 11; i++) {
            x.line(i, i + 1, 0, 200);
        }
        return x;
    }

    private static void farAway(Check check) {
        WagonClearing x = chain();
        x.empties(0, 3, 0);
        x.empties(11, 0, 2);
        check.due("met()", x.met(), 2);
        check.due("led()", x.led(), 4400);
    }

    private static void noWay(Check check) {
        WagonClearing x = new WagonClearing();
        x.line(0, 1, 0, 10);
        x.line(2, 3, 0, 10);
        x.empties(0, 9, 0);
        x.empties(2, 0, 9);
        check.due("met()", x.met(), 0);
        check.due("led()", x.led(), 0);
    }

    private static void fewerEmpties(Check check) {
        WagonClearing x = chain();
        x.empties(5, 4, 0);
        x.empties(0, 0, 9);
        x.empties(11, 0, 9);
        check.due("met()", x.met(), 4);
    }

    private static void fewerWants(Check check) {
        WagonClearing x = chain();
        x.empties(5, 0, 4);
        x.empties(0, 9, 0);
        x.empties(11, 9, 0);
        check.due("met()", x.met(), 4);
    }

    private static void partsApart(Check check) {
        WagonClearing x = new WagonClearing();
        x.line(0, 1, 0, 10);
        x.line(2, 3, 0, 10);
        x.empties(0, 9, 0);
        x.empties(1, 0, 2);
        x.empties(2, 1, 0);
        x.empties(3, 0, 9);
        check.due("met()", x.met(), 3);
    }

    private static void theMost(Check check) {
        WagonClearing x = chain();
        for (int junction = 0; junction < 12; junction++) {
            x.empties(junction, 9, 9);
        }
        check.due("met()", x.met(), 108);
    }

    private static void theMostLed(Check check) {
        WagonClearing x = chain();
        for (int junction = 0; junction < 12; junction++) {
            x.empties(junction, junction % 2 == 0 ? 9 : 0, junction % 2 == 0 ? 0 : 9);
        }
        check.due("met()", x.met(), 54);
        check.due("led()", x.led(), 54 * 200);
    }

    private static void changes(Check check) {
        WagonClearing x = new WagonClearing();
        x.empties(0, 3, 0);
        x.empties(1, 0, 2);
        check.due("met() without a way", x.met(), 0);
        x.line(1, 0, 0, 10);
        check.due("met() with a way", x.met(), 2);
        x.empties(1, 0, 1);
        check.due("met() with less wanted", x.met(), 1);
        x.empties(0, 0, 0);
        check.due("met() with none there", x.met(), 0);
    }

    private static void askedTwice(Check check) {
        WagonClearing x = chain();
        x.empties(0, 3, 1);
        x.empties(4, 0, 5);
        for (int i = 0; i < 4; i++) {
            check.due("met()", x.met(), 3);
            check.due("led()", x.led(), 1600);
        }
        check.due("count(4)", x.count(4), 3);
        check.due("count(5)", x.count(5), 6);
    }
}
