import java.util.Arrays;

/** A clearing house for wagons of companies that run on one another's lines. */
public final class WagonClearing {
    public static final int NONE = -1;

    private static final int COMPANIES = 8;
    private static final int JUNCTIONS = 12;
    private static final int MAX_LINES = 24;
    private static final int MAX_MILES = 200;
    private static final int MAX_SUM = 1000000;
    private static final int MAX_BOOKED = 1000;
    private static final int MAX_WAGONS = 4;
    private static final int MAX_SIGHTS = 7;
    private static final int MIN_MARK = 10000;
    private static final int MAX_MARK = 99999;
    private static final int MAX_DAY = 999;
    private static final int MAX_FREE = 30;
    private static final int MAX_PRICE = 100;
    private static final int MAX_EMPTIES = 9;
    // Above every sum of miles, and far enough below an int's end to be added to.
    private static final int FAR = 1000000;

    private final Network network;
    private final Parting parting;
    private final Register register;
    private final Joining joining;
    private final Charging charging;
    private final Grouping grouping;
    private final Leading leading;
    private final int[] booked;
    private final int[] balances;
    private int sums;

    public WagonClearing() {
        network = new Network();
        parting = new Parting(network);
        register = new Register();
        joining = new Joining(network, register);
        charging = new Charging(register, joining);
        grouping = new Grouping();
        leading = new Leading(network);
        booked = new int[COMPANIES];
        balances = new int[COMPANIES];
        sums = 0;
    }

    public int line(int a, int b, int company, int miles) {
        int number = network.addLine(a, b, company, miles);
        if (number != NONE) {
            joining.forget();
            leading.forget();
        }
        return number;
    }

    public int least(int a, int b) {
        return network.milesBetween(a, b);
    }

    public int route(int a, int b) {
        return network.lineTowards(a, b);
    }

    public int part(int from, int to, int sum, int company) {
        if (!isCompany(company) || !parting.divide(from, to, sum)) {
            return NONE;
        }
        return parting.parts[company];
    }

    public boolean book(int from, int to, int sum, int taker) {
        if (!isCompany(taker) || sums >= MAX_BOOKED || !parting.divide(from, to, sum)) {
            return false;
        }
        for (int company = 0; company < COMPANIES; company++) {
            booked[company] += parting.parts[company];
            booked[taker] -= parting.parts[company];
        }
        sums++;
        return true;
    }

    public int wagon(int mark, int owner) {
        int number = register.addWagon(mark, owner);
        if (number != NONE) {
            joining.forget();
        }
        return number;
    }

    public int see(int mark, int junction, int day, int company) {
        int number = register.addSight(mark, junction, day, company);
        if (number != NONE) {
            joining.forget();
        }
        return number;
    }

    public int close() {
        charging.addCharges(booked);
        int gone = register.sights;
        register.sights = 0;
        joining.forget();
        return gone;
    }

    public int error(int sight, int wagon) {
        return register.errorOf(sight, wagon);
    }

    public int whose(int sight) {
        return joining.wagonOf(sight);
    }

    public int cost() {
        return joining.lowestCost();
    }

    public boolean terms(int free, int price) {
        return charging.agree(free, price);
    }

    public int charge(int wagon, int company) {
        return charging.owed(wagon, company);
    }

    public int balance(int company) {
        if (!isCompany(company)) {
            return 0;
        }
        strikeBalances();
        return balances[company];
    }

    public int fewest() {
        strikeBalances();
        grouping.weigh(balances);
        return grouping.payments();
    }

    public int group(int company) {
        if (!isCompany(company)) {
            return 0;
        }
        strikeBalances();
        grouping.weigh(balances);
        return grouping.groupWith(company);
    }

    public boolean empties(int junction, int there, int wanted) {
        return leading.place(junction, there, wanted);
    }

    public int met() {
        leading.solve();
        return leading.wantsMet;
    }

    public int led() {
        leading.solve();
        return leading.milesLed;
    }

    public int count(int what) {
        switch (what) {
            case 0:
                return network.lines;
            case 1:
                return register.wagons;
            case 2:
                return register.sights;
            case 3:
                return sums;
            case 4:
                return sumOf(leading.there);
            case 5:
                return sumOf(leading.wanted);
            default:
                return NONE;
        }
    }

    private void strikeBalances() {
        System.arraycopy(booked, 0, balances, 0, COMPANIES);
        charging.addCharges(balances);
    }

    private static boolean isWithin(int value, int low, int high) {
        return value >= low && value <= high;
    }

    private static boolean isCompany(int company) {
        return company >= 0 && company < COMPANIES;
    }

    private static boolean isJunction(int junction) {
        return junction >= 0 && junction < JUNCTIONS;
    }

    private static boolean isMark(int mark) {
        return isWithin(mark, MIN_MARK, MAX_MARK);
    }

    private static int sumOf(int[] row) {
        int sum = 0;
        for (int i = 0; i < row.length; i++) {
            sum += row[i];
        }
        return sum;
    }

    /** The lines, and the least miles between all junctions. */
    private static final class Network {
        final int[] oneEnd = new int[MAX_LINES];
        final int[] otherEnd = new int[MAX_LINES];
        final int[] companies = new int[MAX_LINES];
        final int[] miles = new int[MAX_LINES];
        final int[] leasts = new int[JUNCTIONS * JUNCTIONS];
        int lines = 0;

        Network() {
            Arrays.fill(leasts, FAR);
            for (int junction = 0; junction < JUNCTIONS; junction++) {
                leasts[junction * JUNCTIONS + junction] = 0;
            }
        }

        int addLine(int a, int b, int company, int length) {
            if (!isJunction(a) || !isJunction(b) || a == b || !isCompany(company)) {
                return NONE;
            }
            if (!isWithin(length, 1, MAX_MILES) || lines >= MAX_LINES) {
                return NONE;
            }
            oneEnd[lines] = a;
            otherEnd[lines] = b;
            companies[lines] = company;
            miles[lines] = length;
            lines++;
            shorten(a, b, length);
            shorten(b, a, length);
            return lines - 1;
        }

        // A least way uses the new line once at most, so one look at each pair is enough.
        private void shorten(int a, int b, int length) {
            for (int u = 0; u < JUNCTIONS; u++) {
                for (int v = 0; v < JUNCTIONS; v++) {
                    int over = leasts[u * JUNCTIONS + a] + length + leasts[b * JUNCTIONS + v];
                    int at = u * JUNCTIONS + v;
                    leasts[at] = Math.min(leasts[at], over);
                }
            }
        }

        int milesBetween(int a, int b) {
            if (!isJunction(a) || !isJunction(b)) {
                return NONE;
            }
            int found = leasts[a * JUNCTIONS + b];
            return found >= FAR ? NONE : found;
        }

        int lineTowards(int from, int to) {
            int whole = milesBetween(from, to);
            if (whole == NONE || from == to) {
                return NONE;
            }
            int chosen = NONE;
            int nextJunction = JUNCTIONS;
            for (int number = 0; number < lines; number++) {
                int next = farEnd(number, from);
                if (next != NONE && next < nextJunction
                        && miles[number] + leasts[next * JUNCTIONS + to] == whole) {
                    chosen = number;
                    nextJunction = next;
                }
            }
            return chosen;
        }

        int farEnd(int number, int from) {
            if (number < 0 || number >= lines) {
                return NONE;
            }
            if (oneEnd[number] == from) {
                return otherEnd[number];
            }
            return otherEnd[number] == from ? oneEnd[number] : NONE;
        }
    }

    /** Parts sums among the companies on a route; its rows hold the last sum that was parted. */
    private static final class Parting {
        private static final int TERMINAL_SHARE = 10;

        final int[] parts = new int[COMPANIES];
        private final int[] milesOf = new int[COMPANIES];
        private final int[] cutOff = new int[COMPANIES];
        private final Network network;
        private int firstCompany = NONE;
        private int lastCompany = NONE;

        Parting(Network network) {
            this.network = network;
        }

        boolean divide(int from, int to, int sum) {
            if (!isWithin(sum, 0, MAX_SUM) || !travel(from, to)) {
                return false;
            }
            int terminal = sum / TERMINAL_SHARE;
            if (!divideByMiles(sum - 2 * terminal)) {
                return false;
            }
            parts[firstCompany] += terminal;
            parts[lastCompany] += terminal;
            return true;
        }

        private boolean travel(int from, int to) {
            Arrays.fill(milesOf, 0);
            firstCompany = NONE;
            lastCompany = NONE;
            int at = from;
            for (int step = 0; step < JUNCTIONS && at != to; step++) {
                int number = network.lineTowards(at, to);
                if (number == NONE) {
                    return false;
                }
                lastCompany = network.companies[number];
                if (step == 0) {
                    firstCompany = lastCompany;
                }
                milesOf[lastCompany] += network.miles[number];
                at = network.farEnd(number, at);
            }
            return isCompany(firstCompany) && isCompany(lastCompany) && at == to;
        }

        private boolean divideByMiles(int left) {
            int allMiles = sumOf(milesOf);
            if (allMiles <= 0) {
                return false;
            }
            int over = left;
            for (int company = 0; company < COMPANIES; company++) {
                // The product comes near an int's end.
                long product = (long) left * milesOf[company];
                parts[company] = (int) (product / allMiles);
                cutOff[company] = (int) (product % allMiles);
                over -= parts[company];
            }
            for (int given = 0; given < COMPANIES && given < over; given++) {
                giveOneMore();
            }
            return true;
        }

        private void giveOneMore() {
            int chosen = 0;
            for (int company = 1; company < COMPANIES; company++) {
                if (cutOff[company] > cutOff[chosen]) {
                    chosen = company;
                }
            }
            parts[chosen]++;
            // Each has one more at most.
            cutOff[chosen] = NONE;
        }
    }

    /** The wagons and the sights, as they were told. */
    private static final class Register {
        private static final int PLACES = 5;
        private static final int MAX_DIFFERENCE = 2;
        private static final int TOO_DIFFERENT = 9;

        final int[] marks = new int[MAX_WAGONS];
        final int[] owners = new int[MAX_WAGONS];
        int wagons = 0;
        final int[] written = new int[MAX_SIGHTS];
        final int[] junctions = new int[MAX_SIGHTS];
        final int[] days = new int[MAX_SIGHTS];
        final int[] companies = new int[MAX_SIGHTS];
        int sights = 0;

        int addWagon(int mark, int owner) {
            if (!isMark(mark) || !isCompany(owner) || wagons >= MAX_WAGONS) {
                return NONE;
            }
            for (int other = 0; other < wagons; other++) {
                if (marks[other] == mark) {
                    return NONE;
                }
            }
            marks[wagons] = mark;
            owners[wagons] = owner;
            wagons++;
            return wagons - 1;
        }

        int addSight(int mark, int junction, int day, int company) {
            if (!isMark(mark) || !isJunction(junction) || !isCompany(company)) {
                return NONE;
            }
            if (!isWithin(day, 0, MAX_DAY) || sights >= MAX_SIGHTS) {
                return NONE;
            }
            if (sights > 0 && day < days[sights - 1]) {
                return NONE;
            }
            written[sights] = mark;
            junctions[sights] = junction;
            days[sights] = day;
            companies[sights] = company;
            sights++;
            return sights - 1;
        }

        boolean hasWagon(int number) {
            return number >= 0 && number < wagons;
        }

        boolean hasSight(int number) {
            return number >= 0 && number < sights;
        }

        int errorOf(int sight, int number) {
            if (!hasSight(sight) || !hasWagon(number)) {
                return NONE;
            }
            return difference(written[sight], marks[number]);
        }

        static int difference(int read, int mark) {
            int differing = 0;
            boolean turnedAbout = false;
            int readBehind = NONE;
            int markBehind = NONE;
            int readRest = read;
            int markRest = mark;
            for (int place = 0; place < PLACES; place++) {
                int readDigit = readRest % 10;
                int markDigit = markRest % 10;
                if (readDigit != markDigit) {
                    differing++;
                    turnedAbout = turnedAbout
                            || readDigit == markBehind && markDigit == readBehind;
                }
                readBehind = readDigit;
                markBehind = markDigit;
                readRest /= 10;
                markRest /= 10;
            }
            if (differing == 2 && turnedAbout) {
                return 1;
            }
            return differing > MAX_DIFFERENCE ? TOO_DIFFERENT : differing;
        }
    }

    /** Finds the best joining of the sights, and keeps it until something changes. */
    private static final class Joining {
        private static final int MAX_ERROR = 2;
        private static final int NOBODYS_COST = 3;
        private static final int MILES_A_DAY = 100;

        private final Network network;
        private final Register register;
        private final int[] errors = new int[MAX_SIGHTS * MAX_WAGONS];
        // What the sights from this one on cost at least.
        private final int[] floors = new int[MAX_SIGHTS + 1];
        private final int[] tried = new int[MAX_SIGHTS];
        private final int[] latest = new int[MAX_WAGONS];
        final int[] best = new int[MAX_SIGHTS];
        private int bestCost = 0;
        private boolean known = false;

        Joining(Network network, Register register) {
            this.network = network;
            this.register = register;
        }

        void forget() {
            known = false;
        }

        int wagonOf(int sight) {
            if (!register.hasSight(sight)) {
                return NONE;
            }
            solve();
            return best[sight];
        }

        int lowestCost() {
            solve();
            return bestCost;
        }

        void solve() {
            if (known) {
                return;
            }
            measureErrors();
            Arrays.fill(latest, NONE);
            // All sights as nobody's is always a joining, so one below this is found.
            bestCost = register.sights * NOBODYS_COST + 1;
            searchFrom(this, 0, 0);
            known = true;
        }

        private void measureErrors() {
            floors[register.sights] = 0;
            for (int sight = register.sights - 1; sight >= 0; sight--) {
                int lowest = NOBODYS_COST;
                for (int number = 0; number < register.wagons; number++) {
                    int found = Register.difference(register.written[sight],
                            register.marks[number]);
                    errors[sight * MAX_WAGONS + number] = found;
                    lowest = Math.min(lowest, found);
                }
                floors[sight] = floors[sight + 1] + lowest;
            }
        }

        // Joinings come in the document's order, so the first of those with like cost is kept.
        private static void searchFrom(Joining j, int sight, int spent) {
            if (sight > j.register.sights || spent + j.floors[sight] >= j.bestCost) {
                return;
            }
            if (sight == j.register.sights) {
                j.keep(spent);
                return;
            }
            for (int number = 0; number < j.register.wagons; number++) {
                int found = j.errors[sight * MAX_WAGONS + number];
                if (found <= MAX_ERROR && j.isInTime(j.latest[number], sight)) {
                    int before = j.latest[number];
                    j.latest[number] = sight;
                    j.tried[sight] = number;
                    searchFrom(j, sight + 1, spent + found);
                    j.latest[number] = before;
                }
            }
            j.tried[sight] = NONE;
            searchFrom(j, sight + 1, spent + NOBODYS_COST);
        }

        private boolean isInTime(int earlier, int later) {
            if (earlier == NONE) {
                return true;
            }
            int from = register.junctions[earlier];
            int way = network.leasts[from * JUNCTIONS + register.junctions[later]];
            if (way >= FAR) {
                return false;
            }
            int needed = (way + MILES_A_DAY - 1) / MILES_A_DAY;
            return register.days[later] - register.days[earlier] >= needed;
        }

        private void keep(int spent) {
            System.arraycopy(tried, 0, best, 0, MAX_SIGHTS);
            bestCost = spent;
        }
    }

    /** What companies owe for days of others' wagons on their lines. */
    private static final class Charging {
        private final Register register;
        private final Joining joining;
        private int freeDays = 2;
        private int dayPrice = 10;

        Charging(Register register, Joining joining) {
            this.register = register;
            this.joining = joining;
        }

        boolean agree(int free, int price) {
            if (!isWithin(free, 0, MAX_FREE) || !isWithin(price, 0, MAX_PRICE)) {
                return false;
            }
            freeDays = free;
            dayPrice = price;
            return true;
        }

        int owed(int number, int company) {
            if (!register.hasWagon(number) || !isCompany(company)) {
                return 0;
            }
            joining.solve();
            return owedAsJoined(number, company);
        }

        private int owedAsJoined(int number, int company) {
            if (register.owners[number] == company) {
                return 0;
            }
            int sum = 0;
            int earlier = NONE;
            for (int sight = 0; sight < register.sights; sight++) {
                if (joining.best[sight] == number) {
                    if (earlier != NONE && register.companies[earlier] == company) {
                        sum += priceOf(register.days[sight] - register.days[earlier]);
                    }
                    earlier = sight;
                }
            }
            return sum;
        }

        private int priceOf(int days) {
            return Math.max(0, days - freeDays) * dayPrice;
        }

        void addCharges(int[] accounts) {
            if (accounts.length < COMPANIES) {
                return;
            }
            joining.solve();
            for (int number = 0; number < register.wagons; number++) {
                for (int company = 0; company < COMPANIES; company++) {
                    int sum = owedAsJoined(number, company);
                    accounts[company] -= sum;
                    accounts[register.owners[number]] += sum;
                }
            }
        }
    }

    /** Puts companies into groups that are together 0; a set of companies is a number's bits. */
    private static final class Grouping {
        private static final int SETS = 1 << COMPANIES;

        private final int[] totals = new int[SETS];
        // Into how many groups a set that is together 0 can be put at most.
        private final int[] most = new int[SETS];
        private int members = 0;

        void weigh(int[] balances) {
            if (balances.length < COMPANIES) {
                return;
            }
            members = 0;
            for (int company = 0; company < COMPANIES; company++) {
                if (balances[company] != 0) {
                    members |= 1 << company;
                }
            }
            for (int set = 1; set < SETS; set++) {
                if ((set & ~members) == 0) {
                    weighSet(set, balances);
                }
            }
        }

        // Companies put in a row, group behind group: each group's end is where the sum so far is 0.
        // The most such places over all rows is the most groups.
        private void weighSet(int set, int[] balances) {
            int total = 0;
            int mostBefore = 0;
            for (int company = 0; company < COMPANIES; company++) {
                int bit = 1 << company;
                if ((set & bit) != 0) {
                    total += balances[company];
                    mostBefore = Math.max(mostBefore, most[set ^ bit]);
                }
            }
            totals[set] = total;
            most[set] = total == 0 ? mostBefore + 1 : mostBefore;
        }

        int payments() {
            return Integer.bitCount(members) - most[members];
        }

        int groupWith(int company) {
            int bit = 1 << company;
            int left = members;
            for (int round = 0; round < COMPANIES && left != 0; round++) {
                int found = firstGroup(left);
                if ((found & bit) != 0) {
                    return found;
                }
                left &= ~found;
            }
            return 0;
        }

        private int firstGroup(int left) {
            int lowest = left & -left;
            for (int set = lowest; set < left; set++) {
                boolean fits = (set & ~left) == 0 && (set & lowest) != 0;
                if (fits && totals[set] == 0 && most[left ^ set] + 1 == most[left]) {
                    return set;
                }
            }
            return left;
        }
    }

    /** Leads empties to where they are wanted, and keeps the answer until something changes. */
    private static final class Leading {
        // Each round leads one wagon more at least.
        private static final int MAX_ROUNDS = JUNCTIONS * MAX_EMPTIES;

        final int[] there = new int[JUNCTIONS];
        final int[] wanted = new int[JUNCTIONS];
        int wantsMet = 0;
        int milesLed = 0;
        private final Network network;
        private final int[] spare = new int[JUNCTIONS];
        private final int[] moved = new int[JUNCTIONS * JUNCTIONS];
        private final int[] reach = new int[JUNCTIONS];
        private final int[] before = new int[JUNCTIONS];
        private boolean known = true;

        Leading(Network network) {
            this.network = network;
        }

        void forget() {
            known = false;
        }

        boolean place(int junction, int empties, int wants) {
            if (!isJunction(junction) || !isWithin(empties, 0, MAX_EMPTIES)
                    || !isWithin(wants, 0, MAX_EMPTIES)) {
                return false;
            }
            there[junction] = empties;
            wanted[junction] = wants;
            forget();
            return true;
        }

        void solve() {
            if (known) {
                return;
            }
            stayAtHome();
            int round = 0;
            while (round < MAX_ROUNDS && leadMore()) {
                round++;
            }
            known = true;
        }

        // No way by a junction is shorter than the least one, so it never costs more to use a
        // junction's own empties first; then each junction only gives or only takes.
        private void stayAtHome() {
            Arrays.fill(moved, 0);
            wantsMet = 0;
            milesLed = 0;
            for (int junction = 0; junction < JUNCTIONS; junction++) {
                wantsMet += Math.min(there[junction], wanted[junction]);
                spare[junction] = there[junction] - wanted[junction];
            }
        }

        private boolean leadMore() {
            measureReach();
            int goal = nearestGoal();
            if (goal == NONE) {
                return false;
            }
            int amount = amountTo(goal);
            if (amount <= 0) {
                return false;
            }
            moveTo(goal, amount);
            wantsMet += amount;
            milesLed += amount * reach[goal];
            return true;
        }

        private void measureReach() {
            for (int junction = 0; junction < JUNCTIONS; junction++) {
                reach[junction] = spare[junction] > 0 ? 0 : FAR;
                before[junction] = NONE;
            }
            boolean changed = true;
            for (int round = 0; round < JUNCTIONS && changed; round++) {
                changed = false;
                for (int from = 0; from < JUNCTIONS; from++) {
                    if (reach[from] < FAR && stepFrom(from)) {
                        changed = true;
                    }
                }
            }
        }

        private boolean stepFrom(int from) {
            boolean changed = false;
            for (int to = 0; to < JUNCTIONS; to++) {
                int step = stepMiles(from, to);
                if (step < FAR && reach[from] + step < reach[to]) {
                    reach[to] = reach[from] + step;
                    before[to] = from;
                    changed = true;
                }
            }
            return changed;
        }

        // From a giver to a taker wagons go; from a taker to a giver such a move is taken back.
        private int stepMiles(int from, int to) {
            int way = network.leasts[from * JUNCTIONS + to];
            if (isGiver(from) && isTaker(to)) {
                return way;
            }
            if (isTaker(from) && isGiver(to) && moved[to * JUNCTIONS + from] > 0) {
                return -way;
            }
            return FAR;
        }

        private boolean isGiver(int junction) {
            return there[junction] > wanted[junction];
        }

        private boolean isTaker(int junction) {
            return there[junction] < wanted[junction];
        }

        private int nearestGoal() {
            int goal = NONE;
            int nearest = FAR;
            for (int junction = 0; junction < JUNCTIONS; junction++) {
                if (spare[junction] < 0 && reach[junction] < nearest) {
                    goal = junction;
                    nearest = reach[junction];
                }
            }
            return goal;
        }

        private int amountTo(int goal) {
            int amount = -spare[goal];
            int at = goal;
            for (int step = 0; step < JUNCTIONS && before[at] != NONE; step++) {
                if (isGiver(at)) {
                    amount = Math.min(amount, moved[at * JUNCTIONS + before[at]]);
                }
                at = before[at];
            }
            return Math.min(amount, spare[at]);
        }

        private void moveTo(int goal, int amount) {
            int at = goal;
            for (int step = 0; step < JUNCTIONS && before[at] != NONE; step++) {
                int from = before[at];
                if (isGiver(at)) {
                    moved[at * JUNCTIONS + from] -= amount;
                } else {
                    moved[from * JUNCTIONS + at] += amount;
                }
                at = from;
            }
            spare[at] -= amount;
            spare[goal] += amount;
        }
    }
}
