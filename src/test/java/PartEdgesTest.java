/** Promise 5, part: its boundary cases, one test each. */
final class PartEdgesTest {
    public static void main(String[] args) {
        Edges edges = new Edges("5 part");
        edges.edge("SUM too small", PartEdgesTest::sumTooSmall);
        edges.edge("SUM too large", PartEdgesTest::sumTooLarge);
        edges.edge("SUM 0 is parted", PartEdgesTest::leastSum);
        edges.edge("SUM 1000000 is parted", PartEdgesTest::greatestSum);
        edges.edge("u and v not one", PartEdgesTest::oneAndItself);
        edges.edge("there is one (a ROUTE)", PartEdgesTest::noRoute);
        edges.edge("no such JUNCTION to begin", PartEdgesTest::wrongFrom);
        edges.edge("no such JUNCTION to end", PartEdgesTest::wrongTo);
        edges.edge("no such COMPANY: too small", PartEdgesTest::companyTooSmall);
        edges.edge("no such COMPANY: too large", PartEdgesTest::companyTooLarge);
        edges.edge("COMPANIES 0 and 7 are such", PartEdgesTest::outermostCompanies);
        edges.edge("those without MILES have nothing", PartEdgesTest::withoutMiles);
        edges.edge("a tenth of the SUM (cut): none of 9, 1 of 10", PartEdgesTest::firstTenth);
        edges.edge("a tenth of the SUM (cut): 1 of 19, 2 of 20", PartEdgesTest::tenthIsCut);
        edges.edge("the first LINE's COMPANY's", PartEdgesTest::firstLine);
        edges.edge("the last one's", PartEdgesTest::lastLine);
        edges.edge("first and last LINE are one COMPANY's", PartEdgesTest::bothTerminals);
        edges.edge("first and last LINE are one LINE", PartEdgesTest::oneLine);
        edges.edge("the same SUM back: the same PARTS", PartEdgesTest::back);
        edges.edge("COMPANY by COMPANY, not LINE by LINE", PartEdgesTest::companyByCompany);
        edges.edge("those that had most cut off", PartEdgesTest::mostCutOff);
        edges.edge("of like ones the lesser COMPANY", PartEdgesTest::likeOnes);
        edges.edge("one more each, not two to one", PartEdgesTest::oneMoreEach);
        edges.edge("nothing cut off: no one has more", PartEdgesTest::nothingCutOff);
        edges.edge("till all is parted", PartEdgesTest::allIsParted);
        edges.edge("the greatest SUM by the most MILES", PartEdgesTest::greatestNumbers);
        edges.end();
    }

    /** Lines of 10 miles from junction i to i + 1, of these companies. */
    private static WagonClearing chain(int... companies) {
        WagonClearing x = new WagonClearing();
        for (int i = 0; i < companies.length; i++) {
            x.line(i, i + 1, companies[i], 10);
        }
        return x;
    }

    private static void parts(Check check, WagonClearing x, int to, int sum, int... want) {
        for (int company = 0; company < 8; company++) {
            int due = company < want.length ? want[company] : 0;
            String call = "part(0, " + to + ", " + sum + ", " + company + ")";
            check.due(call, x.part(0, to, sum, company), due);
        }
    }

    private static void sumTooSmall(Check check) {
        WagonClearing x = chain(0);
        for (int w : Wrong.below(0)) {
            check.due("part of " + w, x.part(0, 1, w, 0), -1);
        }
    }

    private static void sumTooLarge(Check check) {
        WagonClearing x = chain(0);
        for (int w : Wrong.above(1000000)) {
            check.due("part of " + w, x.part(0, 1, w, 0), -1);
        }
    }

    private static void leastSum(Check check) {
        parts(check, chain(0, 1, 0), 3, 0);
        parts(check, chain(0, 1, 0), 3, 1, 1);
    }

    private static void greatestSum(Check check) {
        parts(check, chain(0, 1), 2, 1000000, 500000, 500000);
        parts(check, chain(0, 1), 2, 999999, 500000, 499999);
    }

    private static void oneAndItself(Check check) {
        WagonClearing x = chain(0, 0, 0, 0, 0, 0, 0, 0, 0, 0, 0);
        for (int junction = 0; junction < 12; junction++) {
            check.due("part from and to " + junction, x.part(junction, junction, 5, 0), -1);
            check.due("part of 0 too", x.part(junction, junction, 0, 0), -1);
        }
    }

    private static void noRoute(Check check) {
        WagonClearing x = chain(0, 0);
        check.due("part(0, 3, 5, 0)", x.part(0, 3, 5, 0), -1);
        check.due("part(3, 0, 5, 0)", x.part(3, 0, 5, 0), -1);
        check.due("part(10, 11, 0, 0)", x.part(10, 11, 0, 0), -1);
    }

    private static void wrongFrom(Check check) {
        WagonClearing x = chain(0, 0, 0, 0, 0, 0, 0, 0, 0, 0, 0);
        for (int w : Wrong.outside(0, 11)) {
            check.due("part from " + w, x.part(w, 1, 5, 0), -1);
            check.due("part from " + w + " to itself", x.part(w, w, 5, 0), -1);
        }
    }

    private static void wrongTo(Check check) {
        WagonClearing x = chain(0, 0, 0, 0, 0, 0, 0, 0, 0, 0, 0);
        for (int w : Wrong.outside(0, 11)) {
            check.due("part to " + w, x.part(1, w, 5, 0), -1);
        }
    }

    private static void companyTooSmall(Check check) {
        WagonClearing x = chain(0);
        for (int w : Wrong.below(0)) {
            check.due("part of company " + w, x.part(0, 1, 5, w), -1);
        }
    }

    private static void companyTooLarge(Check check) {
        WagonClearing x = chain(0);
        for (int w : Wrong.above(7)) {
            check.due("part of company " + w, x.part(0, 1, 5, w), -1);
        }
    }

    private static void outermostCompanies(Check check) {
        parts(check, chain(7, 0), 2, 100, 50, 0, 0, 0, 0, 0, 0, 50);
    }

    private static void withoutMiles(Check check) {
        WagonClearing x = chain(3, 5);
        for (int company = 0; company < 8; company++) {
            boolean has = company == 3 || company == 5;
            check.due("part of " + company, x.part(0, 2, 1001, company) > 0, has);
            check.due("one without miles has 0, not none", x.part(0, 2, 1001, company) < 0, false);
        }
    }

    /** The first and the last line are so short that they have little but the terminals. */
    private static WagonClearing longMiddle() {
        WagonClearing x = new WagonClearing();
        x.line(0, 1, 0, 1);
        x.line(1, 2, 1, 198);
        x.line(2, 3, 2, 1);
        return x;
    }

    private static void firstTenth(Check check) {
        parts(check, longMiddle(), 3, 9, 0, 9, 0);
        parts(check, longMiddle(), 3, 10, 1, 8, 1);
        parts(check, longMiddle(), 3, 11, 1, 9, 1);
    }

    private static void tenthIsCut(Check check) {
        parts(check, longMiddle(), 3, 19, 1, 17, 1);
        parts(check, longMiddle(), 3, 20, 2, 16, 2);
        parts(check, longMiddle(), 3, 29, 2, 25, 2);
        parts(check, longMiddle(), 3, 30, 3, 24, 3);
    }

    private static void firstLine(Check check) {
        WagonClearing x = new WagonClearing();
        x.line(0, 1, 4, 1);
        x.line(1, 2, 0, 99);
        // 100 each of terminals, 800 by miles: 8 and 792.
        parts(check, x, 2, 1000, 892, 0, 0, 0, 108);
    }

    private static void lastLine(Check check) {
        WagonClearing x = new WagonClearing();
        x.line(0, 1, 0, 50);
        x.line(1, 2, 1, 49);
        x.line(2, 3, 4, 1);
        parts(check, x, 3, 1000, 500, 392, 0, 0, 108);
    }

    private static void bothTerminals(Check check) {
        parts(check, chain(1, 0, 1), 3, 900, 240, 660);
    }

    private static void oneLine(Check check) {
        parts(check, chain(6), 1, 1, 0, 0, 0, 0, 0, 0, 1);
        parts(check, chain(6), 1, 19, 0, 0, 0, 0, 0, 0, 19);
        parts(check, chain(6), 1, 1000000, 0, 0, 0, 0, 0, 0, 1000000);
    }

    private static void back(Check check) {
        WagonClearing x = chain(0, 1, 2);
        x.line(4, 3, 1, 30);
        // 12 of each terminal, 99 by miles: 16.5, 66, 16.5.
        int[] want = {29, 78, 16};
        for (int company = 0; company < 3; company++) {
            check.due("part there", x.part(0, 4, 123, company), want[company]);
            check.due("part back", x.part(4, 0, 123, company), want[company]);
        }
    }

    private static void companyByCompany(Check check) {
        // Of 3: 2.25 and .75, so company 1 has one more; line by line all four had .75 cut off.
        parts(check, chain(0, 1, 0, 0), 4, 3, 2, 1);
        WagonClearing x = new WagonClearing();
        x.line(0, 1, 1, 30);
        x.line(1, 2, 0, 40);
        x.line(2, 3, 1, 30);
        // Of 1: .6 for company 1, .4 for company 0; line by line company 0's had most cut off.
        parts(check, x, 3, 1, 0, 1);
    }

    private static void mostCutOff(Check check) {
        WagonClearing x = new WagonClearing();
        x.line(0, 1, 0, 33);
        x.line(1, 2, 1, 34);
        x.line(2, 3, 2, 33);
        // Of 1: .33, .34, .33; of 2: .66, .68, .66; of 3: .99, 1.02, .99.
        parts(check, x, 3, 1, 0, 1, 0);
        parts(check, x, 3, 2, 1, 1, 0);
        parts(check, x, 3, 3, 1, 1, 1);
        // Of 4: 1.32, 1.36, 1.32.
        parts(check, x, 3, 4, 1, 2, 1);
    }

    private static void likeOnes(Check check) {
        parts(check, chain(7, 5, 3), 3, 1, 0, 0, 0, 1);
        parts(check, chain(3, 5, 7), 3, 1, 0, 0, 0, 1);
        parts(check, chain(7, 5, 3), 3, 2, 0, 0, 0, 1, 0, 1);
        parts(check, chain(7, 5, 3), 3, 3, 0, 0, 0, 1, 0, 1, 0, 1);
    }

    private static void oneMoreEach(Check check) {
        // Of 7 by eight: .875 each, so seven have one more, and the greatest company none.
        parts(check, chain(0, 1, 2, 3, 4, 5, 6, 7), 8, 7, 1, 1, 1, 1, 1, 1, 1, 0);
        parts(check, chain(7, 6, 5, 4, 3, 2, 1, 0), 8, 7, 1, 1, 1, 1, 1, 1, 1, 0);
    }

    private static void nothingCutOff(Check check) {
        parts(check, chain(0, 1, 2, 3, 4, 5, 6, 7), 8, 8, 1, 1, 1, 1, 1, 1, 1, 1);
        parts(check, chain(0, 1), 2, 8, 4, 4);
    }

    private static void allIsParted(Check check) {
        WagonClearing x = new WagonClearing();
        int[] miles = {1, 7, 13, 200, 50, 3, 111, 9};
        for (int i = 0; i < 8; i++) {
            x.line(i, i + 1, 7 - i, miles[i]);
        }
        int[] sums = {0, 1, 2, 7, 8, 9, 10, 11, 19, 20, 99, 101, 393, 394, 395, 1003, 99999,
            100001, 777777, 999998, 999999, 1000000};
        for (int sum : sums) {
            int all = 0;
            for (int company = 0; company < 8; company++) {
                all += x.part(0, 8, sum, company);
            }
            check.due("all parts of " + sum, all, sum);
        }
    }

    private static void greatestNumbers(Check check) {
        WagonClearing x = new WagonClearing();
        for (int i = 0; i < 11; i++) {
            x.line(i, i + 1, i == 5 ? 0 : 1, 200);
        }
        // 200000 terminals; 800000 by 2200 miles: 72727.27.. and 727272.72..
        parts(check, x, 11, 1000000, 72727, 927273);
    }
}
