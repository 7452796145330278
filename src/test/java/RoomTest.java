import java.lang.management.ManagementFactory;
import java.lang.reflect.Array;
import java.lang.reflect.Field;
import java.lang.reflect.Modifier;
import java.util.ArrayDeque;
import java.util.Deque;
import java.util.IdentityHashMap;
import java.util.Map;

/** The room that an object takes, and that calls make nothing anew but PARTS and LINES. */
public final class RoomTest {
    private static final Due due = new Due();

    public static void main(String[] args) throws Exception {
        EvenFlow x = new EvenFlow();
        room("a new object", x, 60, 8000);
        build(x);
        room("12 PARTS, 20 LINES", x, 220, 24000);
        askAll(x);
        // The first time classes are loaded; only from then on is what calls make counted.
        EvenFlow y = new EvenFlow();
        build(y);
        com.sun.management.ThreadMXBean counter = (com.sun.management.ThreadMXBean) ManagementFactory.getThreadMXBean();
        counter.getCurrentThreadAllocatedBytes();
        long before = counter.getCurrentThreadAllocatedBytes();
        int calls = askAll(y);
        long made = counter.getCurrentThreadAllocatedBytes() - before;
        System.out.println(calls + " calls made " + made + " bytes");
        due.holds(calls > 400 && made < 1000, "calls make objects");
        room("the same behind its calls", y, 220, 24000);
        due.end();
    }

    private static void build(EvenFlow x) {
        for (int p = 0; p < 12; p++) {
            x.part(p < 3 ? 5 : 2, 1, 12);
        }
        for (int l = 0; l < 20; l++) {
            x.line(l % 11, 1, l % 11 + 1, 1);
        }
    }

    private static int askAll(EvenFlow x) {
        int calls = 0;
        for (int turn = 0; turn < 20; turn++) {
            x.first(turn % 20, turn);
            x.round();
            x.stuck();
            x.lacks(turn % 20);
            x.schedule(turn % 3);
            x.once();
            x.least(20000);
            x.beat(false);
            x.bracket(turn);
            x.marking(turn, turn % 20);
            x.draft(turn % 12);
            x.check();
            x.deal(turn % 12, turn % 4);
            x.reset();
            x.copy(0, 0, 1, 0, 12);
            x.row(1, 1, 1);
            x.thing(turn, 0, 1);
            x.schedule(0);
            x.fire(0);
            x.go(0);
            x.look(0, 0);
            x.given(0, 0);
            x.digest();
            calls += 23;
        }
        return calls;
    }

    private static void room(String when, Object start, int mostObjects, int mostPlaces) throws Exception {
        Map<Object, Object> seen = new IdentityHashMap<>();
        Deque<Object> open = new ArrayDeque<>();
        open.add(start);
        seen.put(start, start);
        int places = 0;
        while (!open.isEmpty()) {
            Object o = open.poll();
            if (o.getClass().isArray()) {
                places += Array.getLength(o);
                for (int i = 0; i < Array.getLength(o) && !o.getClass().getComponentType().isPrimitive(); i++) {
                    meet(Array.get(o, i), seen, open);
                }
                continue;
            }
            for (Field f : o.getClass().getDeclaredFields()) {
                if (!Modifier.isStatic(f.getModifiers())) {
                    places++;
                    f.setAccessible(true);
                    if (!f.getType().isPrimitive()) {
                        meet(f.get(o), seen, open);
                    }
                }
            }
        }
        System.out.println(when + ": " + seen.size() + " objects, " + places + " fields and elements");
        due.holds(seen.size() <= mostObjects && places <= mostPlaces, "that is too many");
    }

    private static void meet(Object o, Map<Object, Object> seen, Deque<Object> open) {
        if (o != null && seen.put(o, o) == null) {
            open.add(o);
        }
    }
}
