import com.sun.management.ThreadMXBean;
import java.lang.management.ManagementFactory;
import java.lang.reflect.Array;
import java.lang.reflect.Field;
import java.lang.reflect.Modifier;
import java.util.ArrayDeque;
import java.util.Collections;
import java.util.Deque;
import java.util.IdentityHashMap;
import java.util.Set;

/** What an object takes of the room, and that its calls take nothing more. */
public final class RoomTest {
    /** A run of nothing but constructors, 512 of them, stays within 600,000 objects and 7.3 million elements. */
    private static final int MOST_OBJECTS = 600_000 / 512;
    private static final int MOST_ELEMENTS = 7_300_000 / 512;

    private RoomTest() { }

    public static void main(String[] args) throws IllegalAccessException {
        boolean good = true;
        int[] taken = count(new GluedPaper());
        System.out.println("an object: " + taken[0] + " objects and arrays, " + taken[1] + " fields and elements");
        good &= taken[0] <= MOST_OBJECTS && taken[1] <= MOST_ELEMENTS;
        long bytes = bytesOfCalls();
        System.out.println("its calls: " + bytes + " bytes");
        good &= bytes < 20_000;
        if (!good) {
            System.out.println("that is too much");
            System.exit(1);
        }
    }

    private static int[] count(Object root) throws IllegalAccessException {
        Set<Object> seen = Collections.newSetFromMap(new IdentityHashMap<>());
        Deque<Object> open = new ArrayDeque<>();
        open.push(root);
        int[] taken = new int[2];
        while (!open.isEmpty()) {
            Object object = open.pop();
            if (!seen.add(object)) {
                continue;
            }
            taken[0]++;
            if (object.getClass().isArray()) {
                taken[1] += Array.getLength(object);
                for (int i = 0; i < Array.getLength(object) && object instanceof Object[]; i++) {
                    push(open, Array.get(object, i));
                }
                continue;
            }
            for (Field field : object.getClass().getDeclaredFields()) {
                if (!Modifier.isStatic(field.getModifiers())) {
                    taken[1]++;
                    field.setAccessible(true);
                    if (!field.getType().isPrimitive()) {
                        push(open, field.get(object));
                    }
                }
            }
        }
        return taken;
    }

    private static void push(Deque<Object> open, Object object) {
        if (object != null) {
            open.push(object);
        }
    }

    private static long bytesOfCalls() {
        ThreadMXBean threads = (ThreadMXBean) ManagementFactory.getThreadMXBean();
        long self = Thread.currentThread().getId();
        GluedPaper paper = new GluedPaper();
        String text = "rect 1 0 1 4;cell 0 2;cell 2 2;cell 3 2;let a 4;each k a 4 cell 3-2 k;";
        work(new GluedPaper(), text);
        long start = threads.getThreadAllocatedBytes(self);
        long before = threads.getThreadAllocatedBytes(new long[] {self})[0];
        if (before <= start) {
            System.out.println("this machine does not tell what is taken: nothing is measured");
        }
        work(paper, text);
        return threads.getThreadAllocatedBytes(self) - before;
    }

    private static void work(GluedPaper paper, String text) {
        for (int i = 0; i < text.length(); i += 24) {
            paper.feed(Calls.packed(text, i), Calls.packed(text, i + 8), Calls.packed(text, i + 16));
        }
        paper.figure();
        paper.bodies();
        for (int i = 0; i < paper.gluings(); i++) {
            paper.choose(i);
            paper.same(i, 0);
            paper.bodyOf(i);
            paper.nets(2);
            paper.farthest(i % 8);
            paper.shortest(0, i % 8, 1);
            paper.way(0, 5, 7, 1);
            paper.beyond(0, 0, 2);
            paper.mark(i % 4, false);
            paper.undo();
            paper.glue(0, 1);
            paper.mark(i % 4, true);
        }
    }
}
