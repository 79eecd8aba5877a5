import java.lang.reflect.Array;
import java.lang.reflect.Field;
import java.lang.reflect.Modifier;
import java.util.ArrayDeque;
import java.util.Collections;
import java.util.Deque;
import java.util.IdentityHashMap;
import java.util.Set;

/**
 * All objects of a run share one room of some 600,000 objects and 7.3 million fields and elements. Calls make none
 * (LanguageTreeTest), so what a new object takes is all; with these bounds the room has place for 2,900 of them.
 */
public final class RoomTest {
    private static final Check check = new Check();
    private static final int MOST_OBJECTS = 200, MOST_ELEMENTS = 2500;

    private final Set<Object> seen = Collections.newSetFromMap(new IdentityHashMap<>());
    private final Deque<Object> open = new ArrayDeque<>();
    private int elements;

    public static void main(String[] args) throws Exception {
        RoomTest room = new RoomTest();
        room.walk(new HeavyChains());
        check.due(room.seen.size() + " objects of " + MOST_OBJECTS, room.seen.size() <= MOST_OBJECTS ? 1 : 0, 1);
        check.due(room.elements + " elements of " + MOST_ELEMENTS, room.elements <= MOST_ELEMENTS ? 1 : 0, 1);
        check.end();
    }

    private void walk(Object first) throws Exception {
        reach(first);
        while (!open.isEmpty()) {
            Object one = open.pop();
            if (one.getClass().isArray()) {
                walkArray(one);
            } else {
                walkFields(one);
            }
        }
    }

    private void reach(Object one) {
        if (one != null && seen.add(one)) {
            open.push(one);
        }
    }

    private void walkArray(Object array) {
        int length = Array.getLength(array);
        elements += length;
        for (int k = 0; k < length && !array.getClass().getComponentType().isPrimitive(); k++) {
            reach(Array.get(array, k));
        }
    }

    private void walkFields(Object one) throws Exception {
        for (Field field : one.getClass().getDeclaredFields()) {
            if (Modifier.isStatic(field.getModifiers())) {
                continue;
            }
            elements++;
            if (!field.getType().isPrimitive()) {
                field.setAccessible(true);
                reach(field.get(one));
            }
        }
    }
}
