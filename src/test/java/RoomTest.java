import java.lang.reflect.Array;
import java.lang.reflect.Field;
import java.lang.reflect.Modifier;
import java.util.IdentityHashMap;
import java.util.Map;

/** What a desk keeps is small, and calls keep nothing more. */
public final class RoomTest {
    private final Map<Object, Object> seen = new IdentityHashMap<>();
    private long cells = 0;

    public static void main(String[] args) throws IllegalAccessException {
        FractionDesk desk = new FractionDesk();
        RoomTest fresh = new RoomTest();
        fresh.count(desk);
        // A run may make a new desk with each of its 512 calls and still stay in the room.
        Due.is("objects of a desk are few", true, fresh.seen.size() < 600_000 / 512);
        Due.is("fields and elements of a desk are few", true, fresh.cells < 7_300_000 / 512);
        useAll(desk);
        RoomTest used = new RoomTest();
        used.count(desk);
        Due.is("objects after use", fresh.seen.size(), used.seen.size());
        Due.is("fields and elements after use", fresh.cells, used.cells);
        Due.finish();
    }

    private static void useAll(FractionDesk desk) {
        desk.set(0, -7);
        desk.set(1, 729);
        desk.reckon(0, 0, 1, 7);
        desk.set(1, 3);
        desk.set(2, 1292);
        desk.reckon(1, 1, 2, 7);
        desk.reckon(0, 0, 1, 3);
        for (int i = 0; i < 71; i++) {
            desk.feed(0x31323334, 0x35363738, 0x39303132, 0x33343536, 0x37383930);
        }
        desk.end(600);
        desk.read(5);
        for (int operation = 0; operation < 10; operation++) {
            desk.reckon(2, 0, 1, operation);
            desk.reckon(3, 1, 1, operation);
            desk.round(4, 0, operation);
        }
        desk.write(0, 2);
        desk.compare(0, 1);
    }

    private void count(Object object) throws IllegalAccessException {
        if (object == null || object instanceof String || seen.put(object, object) != null) {
            return;
        }
        Class<?> kind = object.getClass();
        if (kind.isArray()) {
            cells += Array.getLength(object);
            if (!kind.getComponentType().isPrimitive()) {
                for (Object element : (Object[]) object) {
                    count(element);
                }
            }
            return;
        }
        for (Field field : kind.getDeclaredFields()) {
            if (!Modifier.isStatic(field.getModifiers())) {
                cells++;
                field.setAccessible(true);
                if (!field.getType().isPrimitive()) {
                    count(field.get(object));
                }
            }
        }
    }
}
