import java.lang.reflect.Array;
import java.lang.reflect.Field;
import java.lang.reflect.Modifier;
import java.util.ArrayDeque;
import java.util.IdentityHashMap;
import java.util.Map;

/** What an object holds, counted: a run of 512 calls has room for 600,000 objects and 7.3 million fields and elements. */
public final class RoomTest {
    private static final int CALLS = 512;
    private static final int MOST_OBJECTS = 600_000 / CALLS;
    private static final int MOST_CELLS = 7_300_000 / CALLS;

    private static int objects;
    private static int cells;

    public static void main(String[] args) throws IllegalAccessException {
        TwinSets x = new TwinSets();
        count(x);
        within("a new object", 0, 0);
        for (int i = 0; i < 40; i++) {
            int objectsBefore = objects;
            int cellsBefore = cells;
            dearCall(x, i);
            count(x);
            within("call " + i, objectsBefore, cellsBefore);
        }
        runAll(x);
        count(x);
        int objectsBefore = objects;
        int cellsBefore = cells;
        runAll(x);
        count(x);
        Check.same("objects behind the same calls again", objects, objectsBefore);
        Check.same("fields and elements behind the same calls again", cells, cellsBefore);
        Check.end();
    }

    private static void runAll(TwinSets x) {
        for (int i = 0; i < 40; i++) {
            dearCall(x, i);
        }
    }

    private static void dearCall(TwinSets x, int i) {
        if (i == 0) {
            Check.parse(x, "sets 64 60;set a;set b;set c;set d;set e;add a 1 2 3;");
        } else if (i < 20) {
            x.add(i % 5, i);
        } else if (i < 30) {
            x.saveSnapshot(i % 2);
        } else {
            x.undo();
        }
    }

    private static void within(String when, int objectsBefore, int cellsBefore) {
        Check.same(when + ": few objects (" + objects + ")", objects - objectsBefore <= MOST_OBJECTS, true);
        Check.same(when + ": few fields and elements (" + cells + ")", cells - cellsBefore <= MOST_CELLS, true);
    }

    private static void count(Object root) throws IllegalAccessException {
        objects = 0;
        cells = 0;
        Map<Object, Boolean> seen = new IdentityHashMap<>();
        ArrayDeque<Object> left = new ArrayDeque<>();
        reach(root, seen, left);
        while (!left.isEmpty()) {
            Object object = left.remove();
            objects++;
            if (object.getClass().isArray()) {
                countArray(object, seen, left);
            } else if (object instanceof String) {
                cells += ((String) object).length() + 3;
            } else {
                countFields(object, seen, left);
            }
        }
    }

    private static void countArray(Object array, Map<Object, Boolean> seen, ArrayDeque<Object> left) {
        cells += Array.getLength(array);
        for (int i = 0; i < Array.getLength(array) && !array.getClass().getComponentType().isPrimitive(); i++) {
            reach(Array.get(array, i), seen, left);
        }
    }

    private static void countFields(Object object, Map<Object, Boolean> seen, ArrayDeque<Object> left)
            throws IllegalAccessException {
        for (Field field : object.getClass().getDeclaredFields()) {
            if (Modifier.isStatic(field.getModifiers())) {
                continue;
            }
            cells++;
            field.setAccessible(true);
            if (!field.getType().isPrimitive()) {
                reach(field.get(object), seen, left);
            }
        }
    }

    private static void reach(Object object, Map<Object, Boolean> seen, ArrayDeque<Object> left) {
        if (object != null && !(object instanceof Enum) && seen.put(object, true) == null) {
            left.add(object);
        }
    }
}
