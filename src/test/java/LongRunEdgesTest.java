import java.lang.reflect.Field;
import java.util.ArrayDeque;
import java.util.Deque;
import java.util.IdentityHashMap;
import java.util.Map;

/** "At most 512 calls": objects that are used so long still answer right, and do not grow. */
final class LongRunEdgesTest {
    private static final int CALLS = 512;

    public static void main(String[] args) {
        Edges edges = new Edges("at most 512 calls");
        edges.edge("the 512th call answers right: line", LongRunEdgesTest::lines);
        edges.edge("the 512th call answers right: book", LongRunEdgesTest::books);
        edges.edge("the 512th call answers right: see and close", LongRunEdgesTest::sights);
        edges.edge("the 512th call answers right: empties and led", LongRunEdgesTest::empties);
        edges.edge("the 512th call answers right: dear questions", LongRunEdgesTest::questions);
        edges.edge("an object does not grow", LongRunEdgesTest::doesNotGrow);
        edges.end();
    }

    private static void lines(Check check) {
        WagonClearing x = new WagonClearing();
        for (int call = 1; call < CALLS; call++) {
            check.due("line", x.line(0, 1, 0, 200), call <= 24 ? call - 1 : -1);
        }
        check.due("count(0), the 512th", x.count(0), 24);
    }

    private static void books(Check check) {
        WagonClearing x = new WagonClearing();
        x.line(0, 1, 0, 1);
        for (int call = 2; call < CALLS; call++) {
            check.due("book", x.book(0, 1, 1000000, 1), true);
        }
        check.due("balance(1), the 512th", x.balance(1), -510000000);
    }

    private static void sights(Check check) {
        WagonClearing x = new WagonClearing();
        x.wagon(12345, 0);
        int rounds = 0;
        for (int call = 1; call + 3 < CALLS; call += 3) {
            check.due("see", x.see(12345, 0, 0, 1), 0);
            check.due("see", x.see(12345, 0, 999, 1), 1);
            check.due("close", x.close(), 2);
            rounds++;
        }
        check.due("balance(0)", x.balance(0), rounds * 9970);
    }

    private static void empties(Check check) {
        WagonClearing x = new WagonClearing();
        x.line(0, 1, 0, 200);
        for (int call = 1; call + 3 < CALLS; call += 3) {
            int there = call % 10;
            int wanted = (call + 3) % 10;
            x.empties(0, there, 0);
            x.empties(1, 0, wanted);
            check.due("led", x.led(), 200 * Math.min(there, wanted));
        }
    }

    /** Seven sights that fit four wagons alike, and all companies' balances apart. */
    private static WagonClearing crowded(int pace) {
        WagonClearing x = new WagonClearing();
        for (int i = 0; i < 11; i++) {
            x.line(i, i + 1, i % 8, 100 + i);
        }
        for (int i = 0; i < 4; i++) {
            x.wagon(11112 + i, i);
        }
        for (int i = 0; i < 7; i++) {
            x.see(11111, i, pace * i, 7 - i);
        }
        for (int i = 0; i < 8; i++) {
            x.book(0, 11, 1000 * i + 7, i);
            x.empties(i, 9 - i, i);
        }
        return x;
    }

    private static void questions(Check check) {
        // In time for no wagon twice; and in time for one wagon, with charges.
        questions(check, 1);
        questions(check, 3);
    }

    private static void questions(Check check, int pace) {
        WagonClearing once = crowded(pace);
        WagonClearing x = crowded(pace);
        int balance = once.balance(5);
        int cost = once.cost();
        int fewest = once.fewest();
        int group = once.group(7);
        int led = once.led();
        int part = once.part(0, 11, 999999, 3);
        for (int call = 38; call + 6 < CALLS; call += 6) {
            check.due("balance(5)", x.balance(5), balance);
            check.due("cost()", x.cost(), cost);
            check.due("fewest()", x.fewest(), fewest);
            check.due("group(7)", x.group(7), group);
            check.due("led()", x.led(), led);
            check.due("part(0, 11, 999999, 3)", x.part(0, 11, 999999, 3), part);
        }
    }

    // All runs live in one room: what an object holds is made with it, and no call adds to it.
    private static void doesNotGrow(Check check) {
        WagonClearing x = new WagonClearing();
        long atFirst = held(x);
        long later = held(crowdedAndAsked());
        check.due("what a used object holds", later, atFirst);
        check.due("more than 100 objects, or 3000 fields and elements",
                atFirst / 1000000 > 100 || atFirst % 1000000 > 3000, false);
    }

    private static WagonClearing crowdedAndAsked() {
        WagonClearing x = crowded(3);
        x.cost();
        x.fewest();
        x.group(0);
        x.led();
        x.close();
        x.part(0, 11, 999999, 3);
        return x;
    }

    /** Objects and arrays times a million, with all their fields and elements added. */
    private static long held(Object root) {
        Map<Object, Boolean> seen = new IdentityHashMap<>();
        Deque<Object> left = new ArrayDeque<>();
        left.add(root);
        long fields = 0;
        while (!left.isEmpty()) {
            Object one = left.remove();
            if (seen.put(one, true) != null) {
                continue;
            }
            if (one instanceof int[] row) {
                fields += row.length;
                continue;
            }
            for (Field field : one.getClass().getDeclaredFields()) {
                if (java.lang.reflect.Modifier.isStatic(field.getModifiers())) {
                    continue;
                }
                fields++;
                field.setAccessible(true);
                try {
                    Object value = field.getType().isPrimitive() ? null : field.get(one);
                    if (value != null) {
                        left.add(value);
                    }
                } catch (IllegalAccessException closed) {
                    throw new IllegalStateException(closed);
                }
            }
        }
        return seen.size() * 1000000L + fields;
    }
}
