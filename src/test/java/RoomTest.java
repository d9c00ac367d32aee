import java.lang.reflect.Array;
import java.lang.reflect.Field;
import java.lang.reflect.Modifier;
import java.util.ArrayDeque;
import java.util.IdentityHashMap;
import java.util.Map;

/** What an object takes in the room, and that calls take no more. */
public final class RoomTest {
    private static int objects;
    private static int elements;

    public static void main(String[] args) throws IllegalAccessException {
        Check check = new Check();
        BreweryHouse h = new BreweryHouse();
        measure(h);
        System.out.println("a new object: " + objects + " objects and arrays, " + elements + " fields and elements");
        // A run may make some hundred objects of the class: of 600,000 objects and 7.3 million elements in all.
        check.due("few objects", objects < 1000, true);
        check.due("few elements", elements < 40000, true);
        int before = elements;
        for (int i = 0; i < 20; i++) {
            Check.read(h, 0, "tank 9\ntank 9\nvalve 6\npipe 0 2 3\npipe 2 1 1\n");
            Check.read(h, 1, "bar a0 when not c0;");
            Check.read(h, 2, "output o;repeat 3{set o o + 1;wait 1 s;}");
            h.fill(0, 1, 9);
            h.bind(1, 0, 0, 1, 3);
            h.start();
            h.tick(2);
            h.act(1);
            h.tick(9);
        }
        measure(h);
        check.due("calls take no room", elements, before);
        check.done();
    }

    private static void measure(Object root) throws IllegalAccessException {
        objects = 0;
        elements = 0;
        Map<Object, Boolean> seen = new IdentityHashMap<>();
        ArrayDeque<Object> queue = new ArrayDeque<>();
        queue.add(root);
        while (!queue.isEmpty()) {
            Object o = queue.remove();
            if (seen.put(o, true) != null) {
                continue;
            }
            objects++;
            if (o.getClass().isArray()) {
                elements += Array.getLength(o);
                continue;
            }
            for (Field field : o.getClass().getDeclaredFields()) {
                if (Modifier.isStatic(field.getModifiers())) {
                    continue;
                }
                elements++;
                field.setAccessible(true);
                Object value = field.getType().isPrimitive() ? null : field.get(o);
                if (value != null) {
                    queue.add(value);
                }
            }
        }
    }
}
