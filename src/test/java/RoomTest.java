import java.lang.reflect.Array;
import java.lang.reflect.Field;
import java.lang.reflect.Modifier;
import java.util.ArrayList;
import java.util.Collections;
import java.util.IdentityHashMap;
import java.util.List;
import java.util.Set;

/** All that an object keeps is made with it, is small, and is the same behind its 512 calls. */
public final class RoomTest {
    private static final int CALLS = 512;
    private static final int MOST_OBJECTS = 100;
    private static final int MOST_ELEMENTS = 5000;
    private static final int[] NONE_OR_COST = {PlanarFlow.NONE, -2};

    private final Set<Object> found = Collections.newSetFromMap(new IdentityHashMap<>());
    private int elements;

    private RoomTest(Object root) throws IllegalAccessException {
        List<Object> open = new ArrayList<>();
        meet(root, open);
        while (!open.isEmpty()) {
            Object next = open.remove(open.size() - 1);
            if (next.getClass().isArray()) {
                parts(next, open);
            } else {
                fields(next, open);
            }
        }
    }

    public static void main(String[] args) throws IllegalAccessException {
        PlanarFlow x = new PlanarFlow();
        RoomTest before = new RoomTest(x);
        Check.due("objects and arrays " + before.found.size(), before.found.size() <= MOST_OBJECTS, true);
        Check.due("fields and elements " + before.elements, before.elements <= MOST_ELEMENTS, true);
        for (int i = 0; i < CALLS; i++) {
            call(x, i);
        }
        RoomTest behind = new RoomTest(x);
        Check.due("objects and arrays behind all calls", behind.found.size(), before.found.size());
        Check.due("they are the same ones", before.found.containsAll(behind.found), true);
        Check.due("fields and elements behind all calls", behind.elements, before.elements);
        Check.end("RoomTest");
    }

    /** Calls that change most, and the dearest questions. */
    private static void call(PlanarFlow x, int i) {
        switch (i % 16) {
            case 0: x.grid(2 + i / 16 % 5, 6 - i / 16 % 5); break;
            case 1: Check.tell(x, "grid 6 6;all 9 4;slash 0 0 5 5;back 1 1 -2 7"); break;
            case 2: x.slant(i % 36, 1 + i % 2); break;
            case 3: x.bears(i % 108, 9, i % 99); break;
            case 4: x.flow(0, 35); break;
            case 5: x.cut(i % 2, NONE_OR_COST[i % 2]); break;
            case 6: x.rings(1); break;
            case 7: x.gather(72, 14, 3); break;
            case 8: x.supply(i % 36, i % 9 - 4); break;
            case 9: x.meet(); break;
            case 10: x.counts(i / 16 % 2, 0, 35); break;
            case 11: x.worst(7, 0); break;
            case 12: x.image(i / 16 % 2); break;
            case 13: x.back(i / 16 % 2); break;
            case 14: x.route(72, 0, 0); break;
            default: x.ring(0); break;
        }
    }

    private void meet(Object one, List<Object> open) {
        if (one != null && found.add(one)) {
            open.add(one);
        }
    }

    private void parts(Object array, List<Object> open) {
        int length = Array.getLength(array);
        elements += length;
        for (int i = 0; i < length && !array.getClass().getComponentType().isPrimitive(); i++) {
            meet(Array.get(array, i), open);
        }
    }

    private void fields(Object one, List<Object> open) throws IllegalAccessException {
        for (Field field : one.getClass().getDeclaredFields()) {
            if (!Modifier.isStatic(field.getModifiers())) {
                elements++;
                field.setAccessible(true);
                if (!field.getType().isPrimitive()) {
                    meet(field.get(one), open);
                }
            }
        }
    }
}
