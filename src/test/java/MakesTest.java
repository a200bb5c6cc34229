import java.lang.management.ManagementFactory;
import java.lang.reflect.Array;
import java.lang.reflect.Field;
import java.lang.reflect.Modifier;
import java.util.ArrayDeque;
import java.util.Collections;
import java.util.Deque;
import java.util.IdentityHashMap;
import java.util.Set;

/** LANGUAGE.md, rule 12: what a new object, one call and a whole run make is small, however many points there may be. */
public final class MakesTest {
    private static final int CALLS = 512;
    private static final int MOST_OF_NEW = 1500;
    private static final int MOST_OF_CALL = 500;
    private static final int MOST_OF_RUN = 20000;
    private static final int MOST_BYTES_OF_CALL = 4096;

    private static int wrong = 0;

    /** Calls of one run, by their numbers. */
    private interface Run {
        void call(PlaneNet net, int i);
    }

    public static void main(String[] args) throws IllegalAccessException {
        Run[] runs = {
            MakesTest::scattered,
            MakesTest::onLineUntilLast,
            MakesTest::onLineThenAsked,
            MakesTest::clearedAgain,
            MakesTest::refused,
        };
        for (int k = 0; k < runs.length; k++) {
            for (int most : new int[] {1, 3, 100, 512, 1024, Integer.MAX_VALUE}) {
                kept("run " + k + ", most " + most, runs[k], most);
            }
            made("run " + k, runs[k]);
        }
        smallForFewPoints();
        if (wrong > 0) {
            System.exit(1);
        }
        System.out.println("calls make little");
    }

    // ---- the runs

    private static void scattered(PlaneNet net, int i) {
        tryAdd(net, i * 7919 % 1009, i * 104729 % 997);
    }

    private static void onLineUntilLast(PlaneNet net, int i) {
        tryAdd(net, i, i == CALLS - 1 ? 1 : 0);
    }

    private static void onLineThenAsked(PlaneNet net, int i) {
        if (i < 400) {
            tryAdd(net, i, i == 399 ? 1 : 0);
        } else {
            ask(net, i);
        }
    }

    private static void clearedAgain(PlaneNet net, int i) {
        if (i % 64 == 63) {
            net.clear();
        } else if (i % 4 == 3) {
            ask(net, i);
        } else {
            tryAdd(net, i * i % 101, i % 17);
        }
    }

    private static void refused(PlaneNet net, int i) {
        try {
            net.add(1000000001 + i, 0);
        } catch (IllegalArgumentException e) {
            return;
        }
        wrong++;
        System.out.println("add of a wrong place was taken");
    }

    private static void tryAdd(PlaneNet net, int x, int y) {
        try {
            net.add(x, y);
        } catch (IllegalStateException e) {
            // The object is full, which is one of the cases.
            return;
        }
    }

    private static void ask(PlaneNet net, int i) {
        try {
            askOne(net, i);
        } catch (IndexOutOfBoundsException | IllegalStateException e) {
            // There may be too few points for it.
            return;
        }
    }

    private static void askOne(PlaneNet net, int i) {
        switch (i / 4 % 8) {
            case 0 -> net.triangle(i % 5, i % 3);
            case 1 -> net.neighbours(i % 7);
            case 2 -> net.neighbour(i % 7, i % 2);
            case 3 -> net.corner(i % 3);
            case 4 -> net.locate(i % 101, i % 17);
            case 5 -> net.nearest(i, i);
            case 6 -> net.closest(i % 3);
            default -> net.count(i % 3);
        }
    }

    // ---- what is kept, in objects, fields and elements

    private static void kept(String name, Run run, int most) throws IllegalAccessException {
        PlaneNet net = new PlaneNet(most);
        int before = size(net);
        atMost(name + ": a new object", MOST_OF_NEW, before);
        for (int i = 0; i < CALLS; i++) {
            run.call(net, i);
            int after = size(net);
            atMost(name + ": call " + i, MOST_OF_CALL, after - before);
            before = after;
        }
        atMost(name + ": all calls", MOST_OF_RUN, before);
    }

    private static void smallForFewPoints() throws IllegalAccessException {
        PlaneNet net = new PlaneNet(1024);
        for (int i = 0; i < 10; i++) {
            net.add(i, i * i);
        }
        net.triangle(0, 0);
        atMost("ten points of 1024", 2 * MOST_OF_NEW, size(net));
    }

    /** All that hangs on an object: each object and array as one, and its fields or elements. */
    private static int size(Object root) throws IllegalAccessException {
        Set<Object> seen = Collections.newSetFromMap(new IdentityHashMap<>());
        Deque<Object> open = new ArrayDeque<>();
        seen.add(root);
        open.add(root);
        int size = 0;
        while (!open.isEmpty()) {
            Object one = open.remove();
            size += 1 + (one.getClass().isArray() ? lookIntoArray(one, seen, open) : lookIntoObject(one, seen, open));
        }
        return size;
    }

    private static int lookIntoArray(Object array, Set<Object> seen, Deque<Object> open) {
        int length = Array.getLength(array);
        if (!array.getClass().getComponentType().isPrimitive()) {
            for (int i = 0; i < length; i++) {
                note(Array.get(array, i), seen, open);
            }
        }
        return length;
    }

    private static int lookIntoObject(Object object, Set<Object> seen, Deque<Object> open) throws IllegalAccessException {
        int fields = 0;
        for (Field field : object.getClass().getDeclaredFields()) {
            if (Modifier.isStatic(field.getModifiers())) {
                continue;
            }
            fields++;
            if (!field.getType().isPrimitive()) {
                field.setAccessible(true);
                note(field.get(object), seen, open);
            }
        }
        return fields;
    }

    private static void note(Object one, Set<Object> seen, Deque<Object> open) {
        if (one != null && seen.add(one)) {
            open.add(one);
        }
    }

    // ---- what is made, kept or not

    /** The machine may make something of its own beside a call, so that the least of several same runs counts. */
    private static void made(String name, Run run) {
        if (!(ManagementFactory.getThreadMXBean() instanceof com.sun.management.ThreadMXBean meter)
            || !meter.isThreadAllocatedMemorySupported() || !meter.isThreadAllocatedMemoryEnabled()) {
            return;
        }
        long thread = Thread.currentThread().getId();
        long[] least = new long[CALLS];
        for (int again = 0; again < 8; again++) {
            PlaneNet net = new PlaneNet(1024);
            for (int i = 0; i < CALLS; i++) {
                long before = meter.getThreadAllocatedBytes(thread);
                run.call(net, i);
                long bytes = meter.getThreadAllocatedBytes(thread) - before;
                least[i] = again == 0 ? bytes : Math.min(least[i], bytes);
            }
        }
        for (int i = 0; i < CALLS; i++) {
            atMost(name + ": bytes of call " + i, MOST_BYTES_OF_CALL, least[i]);
        }
    }

    private static void atMost(String name, long most, long got) {
        if (got > most) {
            wrong++;
            System.out.println(name + " makes " + got + ", at most " + most + " is due");
        }
    }
}
