import java.lang.management.ManagementFactory;
import java.lang.reflect.Array;
import java.lang.reflect.Field;
import java.lang.reflect.Modifier;
import java.util.IdentityHashMap;
import java.util.Map;

/** All calls of a run live in one room: a new object is small, and no call makes an object or an array. */
public final class RoomTest {
    private static final int MOST_OBJECTS = 150;
    private static final int MOST_ELEMENTS = 4000;
    private static final int OBJECTS = 10;
    /** Each round is 37 calls: 13 of them stay below the 512 that are promised. */
    private static final int ROUNDS = 13;
    /** The least that any object takes is 16 bytes; a call that made one each time would make 130 of them. */
    private static final int MOST_BYTES = 130 * 16 - 1;

    public static void main(String[] args) throws Exception {
        Due due = new Due();
        sizeOfANewOne(due);
        QuinceEnd[] warm = made();
        QuinceEnd[] measured = made();
        long sum = callAll(warm);
        var threads = (com.sun.management.ThreadMXBean) ManagementFactory.getThreadMXBean();
        long self = Thread.currentThread().getId();
        threads.getThreadAllocatedBytes(self);
        long before = threads.getThreadAllocatedBytes(self);
        sum -= callAll(measured);
        long after = threads.getThreadAllocatedBytes(self);
        due.is("bytes that the calls made, at most", Math.max(after - before, MOST_BYTES), MOST_BYTES);
        due.is("the same calls answer the same, together", sum, 0);
        due.end();
    }

    private static QuinceEnd[] made() {
        QuinceEnd[] made = new QuinceEnd[OBJECTS];
        for (int i = 0; i < OBJECTS; i++) {
            made[i] = new QuinceEnd();
        }
        return made;
    }

    private static void sizeOfANewOne(Due due) throws Exception {
        Map<Object, Object> found = new IdentityHashMap<>();
        long elements = count(new QuinceEnd(), found);
        due.is("objects and arrays of a new one, at most", Math.max(found.size(), MOST_OBJECTS), MOST_OBJECTS);
        due.is("its fields and elements, at most", Math.max(elements, MOST_ELEMENTS), MOST_ELEMENTS);
    }

    private static long count(Object o, Map<Object, Object> found) throws Exception {
        if (o == null || found.put(o, o) != null) {
            return 0;
        }
        long elements = 0;
        if (o.getClass().isArray()) {
            int length = Array.getLength(o);
            for (int i = 0; i < length && !o.getClass().getComponentType().isPrimitive(); i++) {
                elements += count(Array.get(o, i), found);
            }
            return elements + length;
        }
        for (Field f : o.getClass().getDeclaredFields()) {
            if (!Modifier.isStatic(f.getModifiers())) {
                elements++;
                f.setAccessible(true);
                elements += f.getType().isPrimitive() ? 0 : count(f.get(o), found);
            }
        }
        return elements;
    }

    private static long callAll(QuinceEnd[] objects) {
        long sum = 0;
        for (QuinceEnd x : objects) {
            for (int round = 0; round < ROUNDS; round++) {
                sum = 31 * sum + change(x, round);
                sum = 31 * sum + ask(x, round);
            }
        }
        return sum;
    }

    private static long change(QuinceEnd x, int round) {
        long sum = x.thing(round % 7, round % 10, round, round & 1);
        sum = 31 * sum + x.row(6, round & 3, 5);
        sum = 31 * sum + x.put(round % 6);
        sum = 31 * sum + x.say(round / 4);
        sum = 31 * sum + x.weigh(round % 6, round);
        sum = 31 * sum + x.fire(round % 10);
        sum = 31 * sum + (round == 9 ? x.tip() : x.pass(1));
        sum = 31 * sum + x.feed("dark 9 p<9".charAt(round % 10));
        sum = 31 * sum + (round == 9 || round == 12 ? x.kitchen() : x.image());
        sum = 31 * sum + x.see(round, 50);
        sum = 31 * sum + x.plan(round & 3, round % 6);
        sum = 31 * sum + x.book(round % 6, round);
        sum = 31 * sum + x.act(round % 6, round % 3, round);
        sum = 31 * sum + x.tape(round % 6, round % 5, 60);
        sum = 31 * sum + x.item(round % 6, round, round);
        sum = 31 * sum + x.shift(round % 6, 0, round % 6, 1, 59);
        return 31 * sum + (round == 7 ? x.undo() : 0);
    }

    private static long ask(QuinceEnd x, int round) {
        long sum = x.told(7);
        sum = 31 * sum + x.told(8);
        sum = 31 * sum + x.told(9);
        sum = 31 * sum + x.of(round % 6, 6);
        sum = 31 * sum + x.of(round % 6, 7);
        sum = 31 * sum + x.on(60, 0);
        sum = 31 * sum + x.best(3, -1);
        sum = 31 * sum + x.best(3, 2);
        sum = 31 * sum + x.enough(12);
        sum = 31 * sum + x.flame(20, 100);
        sum = 31 * sum + x.can(round % 6, 0);
        sum = 31 * sum + x.odds(20, 0);
        sum = 31 * sum + x.mean(0);
        sum = 31 * sum + x.ends(0);
        sum = 31 * sum + x.looked();
        sum = 31 * sum + x.judge(3, 0);
        sum = 31 * sum + x.trace(0);
        sum = 31 * sum + x.taken(round % 6, 0);
        sum = 31 * sum + x.count(round % 7);
        return 31 * sum + x.read(round % 6, round);
    }
}
