import java.lang.reflect.Array;
import java.lang.reflect.Field;
import java.lang.reflect.Modifier;
import java.util.Collections;
import java.util.IdentityHashMap;
import java.util.Set;

/**
 * All calls of a run live in one room of some 600,000 objects and arrays, and 7.3 million fields and elements. The
 * dearest call is that which makes a new object, as LanguageTest tells that nothing else is made but exceptions: even
 * 512 of it have room.
 */
public final class RoomTest {
    private static final int CALLS = 512;
    private static final int MOST_OBJECTS = 600000;
    private static final int MOST_ELEMENTS = 7300000;

    private final Set<Object> met = Collections.newSetFromMap(new IdentityHashMap<>());
    private int objects = 0;
    private int elements = 0;

    public static void main(String[] args) throws IllegalAccessException {
        RoomTest test = new RoomTest();
        test.count(new Eggboxery());
        Check.due("objects and arrays of a run: " + CALLS * test.objects, CALLS * test.objects <= MOST_OBJECTS, true);
        Check.due("fields and elements of a run: " + CALLS * test.elements, CALLS * test.elements <= MOST_ELEMENTS,
                true);
        Check.end();
    }

    private void count(Object object) throws IllegalAccessException {
        if (object == null || !met.add(object)) {
            return;
        }
        objects++;
        if (object.getClass().isArray()) {
            elements += Array.getLength(object);
            return;
        }
        for (Field field : object.getClass().getDeclaredFields()) {
            if (!Modifier.isStatic(field.getModifiers())) {
                elements++;
                field.setAccessible(true);
                if (!field.getType().isPrimitive()) {
                    count(field.get(object));
                }
            }
        }
    }
}
