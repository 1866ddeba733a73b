import com.sun.management.ThreadMXBean;
import java.lang.management.ManagementFactory;
import java.lang.reflect.Array;
import java.lang.reflect.Field;
import java.lang.reflect.Modifier;
import java.util.ArrayDeque;
import java.util.Collections;
import java.util.Deque;
import java.util.IdentityHashMap;
import java.util.Set;

/** All calls of a run live in one room: an object takes little of it; no call but the first image takes more. */
public final class RoomTest {
    private static final Check check = new Check();
    private static final int CALLS = 512;

    public static void main(String[] args) throws Exception {
        newObjectIsSmall();
        callsTakeNothing();
        check.end("RoomTest");
    }

    /** Even 512 new ones, with images, would fit into the room of 600,000 objects and 7.3 million elements. */
    private static void newObjectIsSmall() throws Exception {
        BlockTruths x = new BlockTruths();
        x.image(0);
        x.image(1);
        Set<Object> seen = Collections.newSetFromMap(new IdentityHashMap<>());
        Deque<Object> open = new ArrayDeque<>();
        open.add(x);
        long elements = 0;
        while (!open.isEmpty()) {
            Object one = open.remove();
            if (seen.add(one)) {
                elements += one.getClass().isArray() ? lookIntoArray(one, open) : lookIntoFields(one, open);
            }
        }
        System.out.println("an object with images: " + seen.size() + " objects, " + elements + " fields and elements");
        check.holds("few objects", (long) seen.size() * CALLS < 600000);
        check.holds("few elements", elements * CALLS < 7300000);
    }

    private static long lookIntoArray(Object array, Deque<Object> open) {
        int length = Array.getLength(array);
        if (!array.getClass().getComponentType().isPrimitive()) {
            for (int i = 0; i < length; i++) {
                if (Array.get(array, i) != null) {
                    open.add(Array.get(array, i));
                }
            }
        }
        return length;
    }

    private static long lookIntoFields(Object one, Deque<Object> open) throws Exception {
        long fields = 0;
        for (Field field : one.getClass().getDeclaredFields()) {
            if (!Modifier.isStatic(field.getModifiers())) {
                fields++;
                field.setAccessible(true);
                if (!field.getType().isPrimitive() && field.get(one) != null) {
                    open.add(field.get(one));
                }
            }
        }
        return fields;
    }

    private static void callsTakeNothing() {
        ThreadMXBean threads = (ThreadMXBean) ManagementFactory.getThreadMXBean();
        long thread = Thread.currentThread().getId();
        BlockTruths x = new BlockTruths();
        x.image(0);
        useAll(new BlockTruths());
        long before = threads.getThreadAllocatedBytes(thread);
        useAll(x);
        long taken = threads.getThreadAllocatedBytes(thread) - before;
        System.out.println("all calls: " + taken + " bytes");
        check.holds("calls make no objects", taken < 4096);
    }

    private static void useAll(BlockTruths x) {
        for (int i = 0; i < 48; i++) {
            x.add(i / 8, i * 7 % 11, i, 1000, -i);
        }
        x.say('|');
        x.say('m');
        x.say('c');
        x.say('<');
        x.say('%');
        x.say('y');
        x.say('a');
        x.say('7');
        x.say('*');
        x.say('b');
        x.say('d');
        x.image(0);
        for (int b = 0; b < 6; b++) {
            x.drop(b, 3);
            x.anew(b);
            x.cell(b, 1, 1);
            x.summary(b, 1, 4);
            x.listed(b, 1, 0, 0);
            x.truth(b, 0);
            x.range(b, 8, 1);
            x.may(b, 0);
            x.verdict(b, 0);
            x.answer(b);
            x.total(b % 4, b % 5);
            x.told(20 + b);
        }
        x.restore(0);
        x.fault();
        x.wipe();
    }
}
