/** All promises: long runs of mixed calls, each answer beside that of the plain model. */
final class AgainstModelTest {
    private static final int RUNS = 300;
    private static final int CALLS = 200;
    private static final int[] WILD = {
        -1, 8, 12, 24, 201, 1000, 1000001, 9999, 100000, Integer.MIN_VALUE, Integer.MAX_VALUE,
    };

    private final Check check = new Check();
    private long seed = 20261116;
    private WagonClearing x;
    private PlainModel m;
    private int day;
    private int spread;

    public static void main(String[] args) {
        new AgainstModelTest().all();
    }

    private void all() {
        for (int run = 0; run < RUNS; run++) {
            x = new WagonClearing();
            m = new PlainModel();
            day = 0;
            spread = 2 + below(11);
            for (int call = 0; call < CALLS; call++) {
                step();
            }
        }
        check.end();
    }

    private int below(int bound) {
        seed = seed * 6364136223846793005L + 1442695040888963407L;
        return (int) Math.floorMod(seed >>> 33, (long) bound);
    }

    /** Mostly what can be, now and then what can't. */
    private int some(int low, int bound) {
        return below(40) == 0 ? WILD[below(WILD.length)] : low + below(bound);
    }

    private int junction() {
        return some(0, Math.min(spread, 12));
    }

    private int company() {
        return some(0, 8);
    }

    private int mark() {
        int digits = 1 + below(2);
        int mark = 0;
        for (int i = 0; i < 5; i++) {
            mark = mark * 10 + (below(3) == 0 ? 2 + below(digits + 1) : 1 + i % 2);
        }
        return below(40) == 0 ? WILD[below(WILD.length)] : mark;
    }

    private int miles() {
        int kind = below(3);
        return some(1, kind == 0 ? 3 : kind == 1 ? 120 : 200);
    }

    private int sum() {
        int kind = below(3);
        return some(0, kind == 0 ? 12 : kind == 1 ? 3000 : 1000001);
    }

    private void due(String name, long got, long want, int... args) {
        StringBuilder call = new StringBuilder(name);
        for (int arg : args) {
            call.append(' ').append(arg);
        }
        check.due(call.toString(), got, want);
    }

    private static long bit(boolean answer) {
        return answer ? 1 : 0;
    }

    private void step() {
        int kind = below(24);
        if (kind < 10) {
            change(kind);
        } else {
            ask(kind);
        }
    }

    private void change(int kind) {
        int a = junction();
        int b = junction();
        int c = company();
        switch (kind) {
            case 0: case 1: {
                int miles = miles();
                due("line", x.line(a, b, c, miles), m.line(a, b, c, miles), a, b, c, miles);
                break;
            }
            case 2: case 3: {
                int sum = sum();
                due("book", bit(x.book(a, b, sum, c)), bit(m.book(a, b, sum, c)), a, b, sum, c);
                break;
            }
            case 4: {
                int mark = mark();
                due("wagon", x.wagon(mark, c), m.wagon(mark, c), mark, c);
                break;
            }
            case 5: case 6: {
                int mark = mark();
                int next = some(Math.max(0, day - 1), 6);
                int number = m.see(mark, a, next, c);
                due("see", x.see(mark, a, next, c), number, mark, a, next, c);
                day = number == -1 ? day : next;
                break;
            }
            case 7: {
                int free = some(0, 4);
                int price = some(0, 101);
                due("terms", bit(x.terms(free, price)), bit(m.terms(free, price)), free, price);
                break;
            }
            case 8: {
                if (below(3) == 0) {
                    due("close", x.close(), m.close());
                    day = 0;
                }
                break;
            }
            default: {
                int there = some(0, 1 + below(10));
                int wanted = some(0, 1 + below(10));
                due("empties", bit(x.empties(a, there, wanted)), bit(m.empties(a, there, wanted)),
                        a, there, wanted);
            }
        }
    }

    private void ask(int kind) {
        int a = junction();
        int b = junction();
        int c = company();
        int sight = some(0, 7);
        int wagon = some(0, 4);
        switch (kind) {
            case 10: due("least", x.least(a, b), m.least(a, b), a, b); break;
            case 11: due("route", x.route(a, b), m.route(a, b), a, b); break;
            case 12: case 13: {
                int sum = sum();
                due("part", x.part(a, b, sum, c), m.part(a, b, sum, c), a, b, sum, c);
                break;
            }
            case 14: due("error", x.error(sight, wagon), m.error(sight, wagon), sight, wagon); break;
            case 15: due("whose", x.whose(sight), m.whose(sight), sight); break;
            case 16: due("cost", x.cost(), m.cost()); break;
            case 17: due("charge", x.charge(wagon, c), m.charge(wagon, c), wagon, c); break;
            case 18: due("balance", x.balance(c), m.balance(c), c); break;
            case 19: due("fewest", x.fewest(), m.fewest()); break;
            case 20: due("group", x.group(c), m.group(c), c); break;
            case 21: due("met", x.met(), m.met()); break;
            case 22: due("led", x.led(), m.led()); break;
            default: {
                int what = some(0, 6);
                due("count", x.count(what), m.count(what), what);
            }
        }
    }
}
