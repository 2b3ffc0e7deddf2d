import com.sun.management.ThreadMXBean;
import java.lang.management.ManagementFactory;
import java.lang.reflect.Array;
import java.lang.reflect.Field;
import java.lang.reflect.Modifier;
import java.util.ArrayDeque;
import java.util.Collections;
import java.util.Deque;
import java.util.IdentityHashMap;
import java.util.Set;

/** The room of the page: few objects stand in an office, and 512 calls make next to nothing new. */
public final class RoomTest {
    /** A call whose room is measured. */
    interface Call {
        void run(PenOffice x);
    }

    private static final int CALLS = 512;
    private static final int MOST_OBJECTS = 600;
    private static final int MOST_FIELDS = 8000;
    // The numbers of twelve letters and the head of their array.
    private static final int BYTES_OF_FEWEST_LATE = 64;
    // What the machine itself may take while the calls run: less than the smallest object a call, of 16 bytes.
    private static final int SLACK = 8000;

    private static final Testing T = new Testing("RoomTest");
    private static final ThreadMXBean THREADS = (ThreadMXBean) ManagementFactory.getThreadMXBean();

    public static void main(String[] args) throws Exception {
        officeIsSmall();
        PenOffice full = Testing.office(Boundaries.SIX_CLERKS + "letter a 30 400 1 9;".repeat(12));
        callMakes("bestPolicy", full, 0, PenOffice::bestPolicy);
        callMakes("minutesToFinish", full, 0, PenOffice::minutesToFinish);
        callMakes("minutesToFinishLetter", full, 0, x -> x.minutesToFinishLetter(11));
        callMakes("letterWrittenIn", full, 0, x -> x.letterWrittenIn(300));
        callMakes("waitingWith", full, 0, x -> x.waitingWith(3));
        callMakes("fewestLate", full, BYTES_OF_FEWEST_LATE, PenOffice::fewestLate);
        callMakes("writeLetters", full, 0, PenOffice::writeLetters);
        callMakes("save and restore", full, 0, x -> {
            x.save(1);
            x.restore(1);
        });
        callMakes("addLetter and undo", new PenOffice(), 0, x -> {
            x.addLetter(1, 30, 999, 999, 9);
            x.undo();
        });
        callMakes("pass and undo", full, 0, x -> {
            x.pass(300);
            x.undo();
        });
        callMakes("runScript of nothing", full, 0, PenOffice::runScript);
        callMakes("a text and runScript", full, 0, RoomTest::runLongScript);
        T.end();
    }

    private static void runLongScript(PenOffice x) {
        for (int i = 0; i < 15; i++) {
            // "policy 4;policy 3;  "
            x.append(0x706f6c69, 0x63792034, 0x3b706f6c, 0x69637920, 0x333b2020);
        }
        x.runScript();
    }

    private static void officeIsSmall() throws IllegalAccessException {
        Set<Object> seen = Collections.newSetFromMap(new IdentityHashMap<>());
        Deque<Object> open = new ArrayDeque<>();
        int fields = 0;
        open.add(new PenOffice());
        while (!open.isEmpty()) {
            Object next = open.pop();
            if (seen.add(next)) {
                fields += next.getClass().isArray() ? elementsOf(next, open) : fieldsOf(next, open);
            }
        }
        T.due(seen.size() + " objects of an office are at most " + MOST_OBJECTS, seen.size() <= MOST_OBJECTS, true);
        T.due(fields + " fields and elements of an office are at most " + MOST_FIELDS, fields <= MOST_FIELDS, true);
    }

    private static int elementsOf(Object array, Deque<Object> open) {
        int length = Array.getLength(array);
        for (int i = 0; i < length && !array.getClass().getComponentType().isPrimitive(); i++) {
            open.add(Array.get(array, i));
        }
        return length;
    }

    private static int fieldsOf(Object object, Deque<Object> open) throws IllegalAccessException {
        int count = 0;
        for (Field field : object.getClass().getDeclaredFields()) {
            if (!Modifier.isStatic(field.getModifiers())) {
                count++;
                field.setAccessible(true);
                if (!field.getType().isPrimitive()) {
                    open.add(field.get(object));
                }
            }
        }
        return count;
    }

    private static void callMakes(String what, PenOffice x, int bytes, Call call) {
        call.run(x);
        long id = Thread.currentThread().getId();
        long before = THREADS.getThreadAllocatedBytes(id);
        for (int i = 0; i < CALLS; i++) {
            call.run(x);
        }
        long made = THREADS.getThreadAllocatedBytes(id) - before;
        T.due(what + " " + CALLS + " times made " + made + " bytes, at most " + bytes + " each", made <= (long) CALLS * bytes + SLACK, true);
    }
}
