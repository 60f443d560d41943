import java.lang.management.ManagementFactory;
import java.lang.reflect.Array;
import java.lang.reflect.Field;
import java.lang.reflect.Modifier;
import java.util.ArrayDeque;
import java.util.Collections;
import java.util.Deque;
import java.util.IdentityHashMap;
import java.util.Set;

/** All calls of a run live in one room: an object is small, and its calls make no objects. */
public final class RoomTest {
    private static final int MOST_OBJECTS = 600;
    private static final int MOST_ELEMENTS = 6000;
    private static int wrong = 0;

    public static void main(String[] args) throws Exception {
        LightRoom room = brightest();
        size(room);
        dearCalls(room);
        long before = allocated();
        dearCalls(room);
        long made = allocated() - before;
        if (made > 1000) {
            wrong++;
            System.out.println("512 calls made " + made + " bytes");
        }
        size(room);
        System.out.println(wrong == 0 ? "the room is kept" : "the room is not kept");
        if (wrong != 0) {
            System.exit(1);
        }
    }

    private static LightRoom brightest() {
        LightRoom room = new LightRoom();
        int[] kinds = {1, 0, 1, 2, 0, 1, 0, 2};
        int[] bottoms = {100, 99, 97, 91, 89, 83, 79, 73};
        room.parts(997);
        for (int p = 0; p < 8; p++) {
            room.corner(p, 0);
            room.corner(p, 5);
            room.patch(2 * p, 2 * p + 1, kinds[p]);
            room.on(p, kinds[p] == 2 ? 0 : bottoms[p] - 1, bottoms[p]);
        }
        for (int p = 0; p < 8; p++) {
            for (int j = 0; j < 8; j++) {
                room.table(p, j, 100 + (p * 5 + j * 7) % 24);
            }
            room.want(p, kinds[p] == 2 ? 0 : 900 + 31 * p);
        }
        return room;
    }

    private static void dearCalls(LightRoom room) {
        for (int i = 0; i < 64; i++) {
            room.on(1, 90 + i % 5, 99);
            room.light(2);
            room.bounce(3, 6);
            room.enough(4);
            room.want(4, 900 + i);
            room.least();
            room.power(0);
            room.sight(0, 1);
        }
    }

    private static long allocated() {
        com.sun.management.ThreadMXBean threads = (com.sun.management.ThreadMXBean) ManagementFactory.getThreadMXBean();
        return threads.getThreadAllocatedBytes(Thread.currentThread().getId());
    }

    private static void size(LightRoom room) throws Exception {
        Set<Object> seen = Collections.newSetFromMap(new IdentityHashMap<>());
        Deque<Object> open = new ArrayDeque<>();
        open.add(room);
        long elements = 0;
        while (!open.isEmpty()) {
            Object one = open.remove();
            if (seen.add(one)) {
                elements += one.getClass().isArray() ? openArray(one, open) : openFields(one, open);
            }
        }
        System.out.println(seen.size() + " objects and arrays, " + elements + " fields and elements");
        if (seen.size() > MOST_OBJECTS || elements > MOST_ELEMENTS) {
            wrong++;
        }
    }

    private static int openArray(Object array, Deque<Object> open) {
        int length = Array.getLength(array);
        for (int i = 0; i < length && !array.getClass().getComponentType().isPrimitive(); i++) {
            open.add(Array.get(array, i));
        }
        return length;
    }

    private static int openFields(Object one, Deque<Object> open) throws Exception {
        int fields = 0;
        for (Field field : one.getClass().getDeclaredFields()) {
            if (!Modifier.isStatic(field.getModifiers())) {
                fields++;
                field.setAccessible(true);
                if (!field.getType().isPrimitive()) {
                    open.add(field.get(one));
                }
            }
        }
        return fields;
    }
}
