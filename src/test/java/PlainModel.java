import java.util.ArrayList;
import java.util.Arrays;
import java.util.List;

/** The document told a second time, slowly and by other ways, for AgainstModelTest. */
final class PlainModel {
    private static final long NO_WAY = 10_000_000;

    private final List<int[]> lines = new ArrayList<>();
    private final List<int[]> wagons = new ArrayList<>();
    private final List<int[]> sights = new ArrayList<>();
    private final long[] booked = new long[8];
    private final int[] there = new int[12];
    private final int[] wanted = new int[12];
    private int sums = 0;
    private int free = 2;
    private int price = 10;

    private static boolean in(int value, int low, int high) {
        return low <= value && value <= high;
    }

    int line(int a, int b, int company, int miles) {
        if (!in(a, 0, 11) || !in(b, 0, 11) || a == b || !in(company, 0, 7)
                || !in(miles, 1, 200) || lines.size() == 24) {
            return -1;
        }
        lines.add(new int[] {a, b, company, miles});
        return lines.size() - 1;
    }

    private long[][] ways() {
        long[][] d = new long[12][12];
        for (int i = 0; i < 12; i++) {
            Arrays.fill(d[i], NO_WAY);
            d[i][i] = 0;
        }
        for (int[] l : lines) {
            d[l[0]][l[1]] = Math.min(d[l[0]][l[1]], l[3]);
            d[l[1]][l[0]] = d[l[0]][l[1]];
        }
        for (int k = 0; k < 12; k++) {
            for (int i = 0; i < 12; i++) {
                for (int j = 0; j < 12; j++) {
                    d[i][j] = Math.min(d[i][j], d[i][k] + d[k][j]);
                }
            }
        }
        return d;
    }

    int least(int a, int b) {
        if (!in(a, 0, 11) || !in(b, 0, 11)) {
            return -1;
        }
        long d = ways()[a][b];
        return d >= NO_WAY ? -1 : (int) d;
    }

    int route(int a, int b) {
        if (!in(a, 0, 11) || !in(b, 0, 11) || a == b || least(a, b) == -1) {
            return -1;
        }
        long[][] d = ways();
        for (int next = 0; next < 12; next++) {
            for (int i = 0; i < lines.size(); i++) {
                int[] l = lines.get(i);
                boolean joins = l[0] == a && l[1] == next || l[1] == a && l[0] == next;
                if (joins && l[3] + d[next][b] == d[a][b]) {
                    return i;
                }
            }
        }
        throw new IllegalStateException("a way without a first line");
    }

    private long[] parts(int from, int to, int sum) {
        if (route(from, to) == -1 || !in(sum, 0, 1000000)) {
            return null;
        }
        List<int[]> way = new ArrayList<>();
        for (int at = from; at != to;) {
            int[] l = lines.get(route(at, to));
            way.add(l);
            at = l[0] == at ? l[1] : l[0];
        }
        long left = sum - 2L * (sum / 10);
        long all = 0;
        long[] miles = new long[8];
        for (int[] l : way) {
            miles[l[2]] += l[3];
            all += l[3];
        }
        long[] parts = new long[8];
        List<Integer> order = new ArrayList<>();
        long over = left;
        for (int c = 0; c < 8; c++) {
            parts[c] = left * miles[c] / all;
            over -= parts[c];
            order.add(c);
        }
        long whole = all;
        order.sort((p, q) -> Long.compare(left * miles[q] % whole, left * miles[p] % whole));
        for (int i = 0; i < over; i++) {
            parts[order.get(i)]++;
        }
        parts[way.get(0)[2]] += sum / 10;
        parts[way.get(way.size() - 1)[2]] += sum / 10;
        return parts;
    }

    int part(int from, int to, int sum, int company) {
        long[] parts = parts(from, to, sum);
        return parts == null || !in(company, 0, 7) ? -1 : (int) parts[company];
    }

    boolean book(int from, int to, int sum, int taker) {
        long[] parts = parts(from, to, sum);
        if (parts == null || !in(taker, 0, 7) || sums == 1000) {
            return false;
        }
        for (int c = 0; c < 8; c++) {
            if (c != taker) {
                booked[c] += parts[c];
                booked[taker] -= parts[c];
            }
        }
        sums++;
        return true;
    }

    int wagon(int mark, int owner) {
        if (!in(mark, 10000, 99999) || !in(owner, 0, 7) || wagons.size() == 4
                || wagons.stream().anyMatch(w -> w[0] == mark)) {
            return -1;
        }
        wagons.add(new int[] {mark, owner});
        return wagons.size() - 1;
    }

    int see(int mark, int junction, int day, int company) {
        if (!in(mark, 10000, 99999) || !in(junction, 0, 11) || !in(day, 0, 999)
                || !in(company, 0, 7) || sights.size() == 7
                || !sights.isEmpty() && sights.get(sights.size() - 1)[2] > day) {
            return -1;
        }
        sights.add(new int[] {mark, junction, day, company});
        return sights.size() - 1;
    }

    int close() {
        long[] now = balances();
        System.arraycopy(now, 0, booked, 0, 8);
        int gone = sights.size();
        sights.clear();
        return gone;
    }

    int error(int sight, int wagon) {
        if (!in(sight, 0, sights.size() - 1) || !in(wagon, 0, wagons.size() - 1)) {
            return -1;
        }
        String read = "" + sights.get(sight)[0];
        String mark = "" + wagons.get(wagon)[0];
        for (int i = 0; i < 4; i++) {
            char[] turned = mark.toCharArray();
            turned[i] = mark.charAt(i + 1);
            turned[i + 1] = mark.charAt(i);
            if (read.equals(new String(turned)) && !read.equals(mark)) {
                return 1;
            }
        }
        int places = 0;
        for (int i = 0; i < 5; i++) {
            places += read.charAt(i) == mark.charAt(i) ? 0 : 1;
        }
        return places > 2 ? 9 : places;
    }

    /** Every joining, as the digits of a number; the wagons' count stands for nobody. */
    private int[] best() {
        int kinds = wagons.size() + 1;
        int n = sights.size();
        long[][] d = ways();
        int[][] errors = new int[n][kinds - 1];
        for (int s = 0; s < n; s++) {
            for (int w = 0; w < kinds - 1; w++) {
                errors[s][w] = error(s, w);
            }
        }
        int[] best = null;
        int bestCost = Integer.MAX_VALUE;
        int all = (int) Math.round(Math.pow(kinds, n));
        for (int number = 0; number < all; number++) {
            int[] joining = new int[n + 1];
            int rest = number;
            for (int s = n - 1; s >= 0; s--) {
                joining[s] = rest % kinds;
                rest /= kinds;
            }
            int cost = costOf(joining, errors, d);
            if (cost < bestCost) {
                bestCost = cost;
                best = joining;
                best[n] = cost;
            }
        }
        return best;
    }

    private int costOf(int[] joining, int[][] errors, long[][] d) {
        int cost = 0;
        for (int s = 0; s < sights.size(); s++) {
            if (joining[s] == wagons.size()) {
                cost += 3;
                continue;
            }
            if (errors[s][joining[s]] > 2) {
                return Integer.MAX_VALUE;
            }
            cost += errors[s][joining[s]];
            for (int t = s - 1; t >= 0; t--) {
                if (joining[t] == joining[s]) {
                    long miles = d[sights.get(t)[1]][sights.get(s)[1]];
                    long days = sights.get(s)[2] - sights.get(t)[2];
                    if (miles > 100 * days) {
                        return Integer.MAX_VALUE;
                    }
                    break;
                }
            }
        }
        return cost;
    }

    int whose(int sight) {
        if (!in(sight, 0, sights.size() - 1)) {
            return -1;
        }
        int found = best()[sight];
        return found == wagons.size() ? -1 : found;
    }

    int cost() {
        return best()[sights.size()];
    }

    boolean terms(int newFree, int newPrice) {
        if (!in(newFree, 0, 30) || !in(newPrice, 0, 100)) {
            return false;
        }
        free = newFree;
        price = newPrice;
        return true;
    }

    int charge(int wagon, int company) {
        return in(wagon, 0, wagons.size() - 1) ? chargeBy(best(), wagon, company) : 0;
    }

    private int chargeBy(int[] joining, int wagon, int company) {
        if (wagons.get(wagon)[1] == company) {
            return 0;
        }
        int sum = 0;
        for (int s = 0; s < sights.size(); s++) {
            int next = s + 1;
            while (next < sights.size() && joining[next] != wagon) {
                next++;
            }
            if (joining[s] == wagon && next < sights.size() && sights.get(s)[3] == company) {
                int days = sights.get(next)[2] - sights.get(s)[2];
                sum += days > free ? (days - free) * price : 0;
            }
        }
        return sum;
    }

    private long[] balances() {
        long[] now = booked.clone();
        int[] joining = best();
        for (int w = 0; w < wagons.size(); w++) {
            for (int c = 0; c < 8; c++) {
                long sum = chargeBy(joining, w, c);
                now[c] -= sum;
                now[wagons.get(w)[1]] += sum;
            }
        }
        return now;
    }

    int balance(int company) {
        return in(company, 0, 7) ? (int) balances()[company] : 0;
    }

    int fewest() {
        int payments = 0;
        for (int g : groups()) {
            payments += Integer.bitCount(g) - 1;
        }
        return payments;
    }

    int group(int company) {
        for (int g : groups()) {
            if (in(company, 0, 7) && (g >> company & 1) == 1) {
                return g;
            }
        }
        return 0;
    }

    private List<Integer> groups() {
        long[] now = balances();
        int members = 0;
        for (int c = 0; c < 8; c++) {
            members |= now[c] != 0 ? 1 << c : 0;
        }
        return groupsOf(members, now);
    }

    /** All ways, in the document's order: the first one of those with the most groups is kept. */
    private static List<Integer> groupsOf(int left, long[] now) {
        if (left == 0) {
            return new ArrayList<>();
        }
        List<Integer> best = null;
        int least = Integer.lowestOneBit(left);
        for (int g = 1; g <= left; g++) {
            long total = 0;
            for (int c = 0; c < 8; c++) {
                total += (g >> c & 1) == 1 ? now[c] : 0;
            }
            if ((g & left) != g || (g & least) == 0 || total != 0) {
                continue;
            }
            List<Integer> rest = groupsOf(left ^ g, now);
            if (rest != null && (best == null || rest.size() + 1 > best.size())) {
                best = rest;
                best.add(0, g);
            }
        }
        return best;
    }

    boolean empties(int junction, int nowThere, int nowWanted) {
        if (!in(junction, 0, 11) || !in(nowThere, 0, 9) || !in(nowWanted, 0, 9)) {
            return false;
        }
        there[junction] = nowThere;
        wanted[junction] = nowWanted;
        return true;
    }

    int met() {
        return leading()[0];
    }

    int led() {
        return leading()[1];
    }

    /** One row an empty, one column a want; no way costs more than all ways together. */
    private int[] leading() {
        List<Integer> rows = new ArrayList<>();
        List<Integer> columns = new ArrayList<>();
        for (int j = 0; j < 12; j++) {
            for (int k = 0; k < there[j]; k++) {
                rows.add(j);
            }
            for (int k = 0; k < wanted[j]; k++) {
                columns.add(j);
            }
        }
        int n = Math.max(rows.size(), columns.size());
        long[][] d = ways();
        long[][] cost = new long[n + 1][n + 1];
        for (int i = 1; i <= n; i++) {
            for (int j = 1; j <= n; j++) {
                boolean real = i <= rows.size() && j <= columns.size();
                cost[i][j] = real ? Math.min(NO_WAY, d[rows.get(i - 1)][columns.get(j - 1)]) : NO_WAY;
            }
        }
        int[] rowOf = assign(cost, n);
        int met = 0;
        int led = 0;
        for (int j = 1; j <= n; j++) {
            if (cost[rowOf[j]][j] < NO_WAY) {
                met++;
                led += cost[rowOf[j]][j];
            }
        }
        return new int[] {met, led};
    }

    /** The Hungarian method. */
    private static int[] assign(long[][] cost, int n) {
        long[] u = new long[n + 1];
        long[] v = new long[n + 1];
        int[] rowOf = new int[n + 1];
        int[] way = new int[n + 1];
        for (int i = 1; i <= n; i++) {
            rowOf[0] = i;
            int j0 = 0;
            long[] low = new long[n + 1];
            Arrays.fill(low, Long.MAX_VALUE);
            boolean[] used = new boolean[n + 1];
            do {
                used[j0] = true;
                int j1 = 0;
                long delta = Long.MAX_VALUE;
                for (int j = 1; j <= n; j++) {
                    if (!used[j]) {
                        long now = cost[rowOf[j0]][j] - u[rowOf[j0]] - v[j];
                        if (now < low[j]) {
                            low[j] = now;
                            way[j] = j0;
                        }
                        if (low[j] < delta) {
                            delta = low[j];
                            j1 = j;
                        }
                    }
                }
                for (int j = 0; j <= n; j++) {
                    if (used[j]) {
                        u[rowOf[j]] += delta;
                        v[j] -= delta;
                    } else {
                        low[j] -= delta;
                    }
                }
                j0 = j1;
            } while (rowOf[j0] != 0);
            while (j0 != 0) {
                rowOf[j0] = rowOf[way[j0]];
                j0 = way[j0];
            }
        }
        return rowOf;
    }

    int count(int what) {
        switch (what) {
            case 0: return lines.size();
            case 1: return wagons.size();
            case 2: return sights.size();
            case 3: return sums;
            case 4: return Arrays.stream(there).sum();
            case 5: return Arrays.stream(wanted).sum();
            default: return -1;
        }
    }
}
