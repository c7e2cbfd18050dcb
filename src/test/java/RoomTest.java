import java.lang.management.ManagementFactory;
import java.lang.reflect.Array;
import java.lang.reflect.Field;
import java.lang.reflect.Modifier;
import java.util.ArrayDeque;
import java.util.Collections;
import java.util.Deque;
import java.util.IdentityHashMap;
import java.util.Set;

/** All calls of a run live in one room: an object takes a small part of it, and its calls no more. */
public final class RoomTest {
    private static final int CALLS = 512;
    private static final String SETUP = "kinds () [] {}; quote \" escape \\; note #;";

    public static void main(String[] args) throws IllegalAccessException {
        measureObject();
        callsMakeNothing();
        Check.finish("RoomTest");
    }

    private static void measureObject() throws IllegalAccessException {
        Set<Object> seen = Collections.newSetFromMap(new IdentityHashMap<>());
        Deque<Object> open = new ArrayDeque<>();
        open.add(new BracketHall());
        long parts = 0;
        while (!open.isEmpty()) {
            Object object = open.poll();
            if (!seen.add(object)) {
                continue;
            }
            Class<?> type = object.getClass();
            if (type.isArray()) {
                parts += Array.getLength(object);
                for (int i = 0; i < Array.getLength(object) && !type.getComponentType().isPrimitive(); i++) {
                    open.add(Array.get(object, i));
                }
                continue;
            }
            for (Field field : type.getDeclaredFields()) {
                if (!Modifier.isStatic(field.getModifiers())) {
                    parts++;
                    field.setAccessible(true);
                    if (!field.getType().isPrimitive()) {
                        open.add(field.get(object));
                    }
                }
            }
        }
        Check.due("objects of one BracketHall: " + seen.size(), seen.size() > 100 ? 1 : 0, 0);
        Check.due("fields and elements of one BracketHall: " + parts, parts > 80000 ? 1 : 0, 0);
    }

    private static void callsMakeNothing() {
        BracketHall hall = Check.holding(SETUP, "(".repeat(51) + "\"[\"#]\n".repeat(20) + ")".repeat(50));
        hall.saveSnapshot(0);
        everyCall(hall);
        long before = allocated();
        for (int n = 0; n < CALLS; n++) {
            everyCall(hall);
        }
        long made = allocated() - before;
        // The measurement itself makes a little; one object a call would be 8 KiB at least.
        Check.due("bytes made by " + CALLS + " of each call: " + made, made > 4096 ? 1 : 0, 0);
    }

    private static long allocated() {
        com.sun.management.ThreadMXBean threads =
            (com.sun.management.ThreadMXBean) ManagementFactory.getThreadMXBean();
        return threads.getThreadAllocatedBytes(Thread.currentThread().getId());
    }

    private static void everyCall(BracketHall hall) {
        hall.restoreSnapshot(0);
        everyQuestion(hall);
        everyChange(hall);
    }

    private static void everyQuestion(BracketHall hall) {
        for (int what = 0; what < 14; what++) {
            hall.size(what);
            hall.look(5, Math.min(what, 8));
        }
        hall.around(5, 1);
        hall.beside(5, true);
        hall.within(5, 0);
        hall.lone(0);
        hall.count(0, 2);
        hall.widest();
        hall.meanDepth();
        hall.share();
        hall.repairCost();
        hall.repairSteps();
        hall.repairStep(0, 1);
        hall.costWithout(3);
        hall.culprit();
        hall.report();
        hall.reportByte(3);
        hall.errorPosition();
    }

    private static void everyChange(BracketHall hall) {
        int put0 = 0x70757430;
        hall.append(put0, 0x2034303b, put0, 0x2034303b, 0);
        hall.script(16);
        hall.append(put0, 0x2034303b, 0x77616e74, 0x39393b20, 0);
        hall.script(15);
        hall.append(put0, 0x2034303b, put0, 0, 0);
        hall.script(20);
        hall.append(0x28282828, 0, 0, 0, 0);
        hall.insert(0, 4);
        hall.erase(0, 4);
        hall.wrap(1, 5, 0);
        hall.unwrap(hall.size(0) - 1);
        hall.culprit();
        hall.repair();
        hall.mark(3);
        hall.unmark(0);
        hall.setColours(4);
        hall.setCosts(3, 2, 4);
        hall.repair();
        hall.undo();
        hall.saveSnapshot(1);
        hall.append(0x6b696e64, 0x73202829, 0x3b282829, 0, 0);
        hall.setup(8);
        hall.append(0, 0, 0, 0, 0);
        hall.load(1);
    }
}
