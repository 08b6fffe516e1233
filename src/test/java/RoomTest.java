import java.lang.management.ManagementFactory;
import java.lang.reflect.Array;
import java.lang.reflect.Field;
import java.lang.reflect.Modifier;
import java.util.ArrayDeque;
import java.util.Collections;
import java.util.Deque;
import java.util.IdentityHashMap;
import java.util.Set;

/** How much an object takes of the one room that all calls of a run live in, and that no call takes more. */
public final class RoomTest {
    private static final com.sun.management.ThreadMXBean HEAP =
        (com.sun.management.ThreadMXBean) ManagementFactory.getThreadMXBean();
    private static final Check check = new Check();
    private static int elements;

    public static void main(String[] args) throws IllegalAccessException {
        whatAnObjectTakes();
        check.due("bytes that feed() and rule() take", taken(new ValuesGo(), RoomTest::texts), 0);
        check.due("bytes that search() takes", taken(check.hard(50), x -> x.search(0, 0, 1, 0)), 0);
        check.due("bytes that solutions() takes", taken(check.hard(0, 7), ValuesGo::solutions), 0);
        check.due("bytes that reach() takes", taken(check.hard(30), x -> x.reach(0, 0)), 0);
        check.due("bytes that tells() takes", taken(tellable(), x -> x.tells(0, 0)), 0);
        check.due("bytes that film() takes", taken(tellable(), x -> x.film(0, 0, 0)), 0);
        check.due("bytes that why() takes", taken(check.hard(30), x -> x.why(0, 0)), 0);
        check.due("bytes that mixed() takes", taken(check.hard(30), x -> x.mixed(7, 0)), 0);
        check.due("bytes that told() takes", taken(check.hard(30), x -> x.told(0, 4) + x.told(0, 5)), 0);
        check.due("bytes that image() and back() take", taken(check.hard(30), x -> x.image() + x.back()), 0);
        check.due("bytes that level() and undo() take", taken(levelled(), RoomTest::levels), 0);
        check.due("bytes that sheets take", taken(new ValuesGo(), RoomTest::sheets), 0);
        check.close();
    }

    private interface Asked {
        long of(ValuesGo x);
    }

    private static int sheets(ValuesGo x) {
        return x.sheet(0, 1, 40) + x.put(0, 39, 7) + x.copy(0, 0, 0, 1, 39) + x.load(0, 1, 0, 8) + x.item(0, 0);
    }

    private static int texts(ValuesGo x) {
        String text = "(a+b)*-c<9999";
        for (int i = 0; i < text.length(); i++) {
            x.feed(text.charAt(i));
        }
        x.image();
        int number = x.rule();
        return number + x.run();
    }

    private static ValuesGo levelled() {
        ValuesGo x = check.with("a<b");
        x.run();
        return x;
    }

    private static int levels(ValuesGo x) {
        return x.level() + x.tell(1, 7) + x.run() + x.trail(0, 1) + x.decision(0, 0) + x.undo();
    }

    private static ValuesGo tellable() {
        ValuesGo x = check.hard(30);
        Check.show(x, 0, 0, 3, 0, 0, 0, 0, 1, 0, 0);
        return x;
    }

    /** What a call takes of the heap, asked for a second time, when all that Java itself makes at first is made. */
    private static long taken(ValuesGo x, Asked call) {
        call.of(x);
        HEAP.getCurrentThreadAllocatedBytes();
        long before = HEAP.getCurrentThreadAllocatedBytes();
        long between = HEAP.getCurrentThreadAllocatedBytes();
        call.of(x);
        return HEAP.getCurrentThreadAllocatedBytes() - between - (between - before);
    }

    private static void whatAnObjectTakes() throws IllegalAccessException {
        Set<Object> all = Collections.newSetFromMap(new IdentityHashMap<>());
        Deque<Object> open = new ArrayDeque<>();
        open.add(new ValuesGo());
        while (!open.isEmpty()) {
            Object one = open.remove();
            if (all.add(one)) {
                if (one.getClass().isArray()) {
                    elementsOf(one, open);
                } else {
                    fieldsOf(one, open);
                }
            }
        }
        // A room for 600000 objects with 7300000 fields and elements has place for a thousand of these.
        System.out.println(all.size() + " objects with " + elements + " fields and elements");
        check.due("whether a thousand objects have room", all.size() <= 600 && elements <= 7300 ? 1 : 0, 1);
    }

    private static void elementsOf(Object array, Deque<Object> open) {
        int size = Array.getLength(array);
        elements += size;
        for (int i = 0; i < size && !array.getClass().getComponentType().isPrimitive(); i++) {
            if (Array.get(array, i) != null) {
                open.add(Array.get(array, i));
            }
        }
    }

    private static void fieldsOf(Object one, Deque<Object> open) throws IllegalAccessException {
        for (Field field : one.getClass().getDeclaredFields()) {
            if (!Modifier.isStatic(field.getModifiers())) {
                elements++;
                field.setAccessible(true);
                if (!field.getType().isPrimitive() && field.get(one) != null) {
                    open.add(field.get(one));
                }
            }
        }
    }
}
