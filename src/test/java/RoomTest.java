import java.lang.reflect.Array;
import java.lang.reflect.Field;
import java.lang.reflect.Modifier;
import java.util.Collections;
import java.util.IdentityHashMap;
import java.util.Set;

/** The room that one object takes, for all calls of one run share 7.3 million fields and elements. */
public final class RoomTest {
    private final Set<Object> met = Collections.newSetFromMap(new IdentityHashMap<>());
    private long parts = 0;

    public static void main(String[] args) throws IllegalAccessException {
        PictureClues x = new PictureClues();
        Due.is("a small room at first", roomOf(x) < 12_000 ? 1 : 0, 1);
        usualPuzzle(x);
        Due.is("a small room for a usual puzzle", roomOf(x) < 20_000 ? 1 : 0, 1);
        // No other puzzle has as many sums of stages: each line has four cells to fill, and four to leave.
        Puzzles.start(x, "1/4;4;4;4;4;4;4;4;4;4;4;4;4;4;4;4");
        Due.is("the greatest search: solutions(99)", x.solutions(99), 2);
        long great = roomOf(x);
        Due.is("a room for the greatest search", great > 150_000 && great < 180_000 ? 1 : 0, 1);
        x.solve();
        x.difficulty();
        usualPuzzle(x);
        Due.is("the room after more calls", roomOf(x), great);
        Due.end();
    }

    private static void usualPuzzle(PictureClues x) {
        Puzzles.start(x, "1/2;4;6;8;8;6;4;2;2;4;6;8;8;6;4;2");
        Due.is("solutions(99) of a diamond", x.solutions(99), 1);
        Due.is("solve() of a diamond", x.solve(), 40);
    }

    private static long roomOf(Object object) throws IllegalAccessException {
        RoomTest test = new RoomTest();
        test.add(object);
        return test.parts;
    }

    private void add(Object object) throws IllegalAccessException {
        if (object == null || !met.add(object)) {
            return;
        }
        if (object.getClass().isArray()) {
            addArray(object);
            return;
        }
        for (Field field : object.getClass().getDeclaredFields()) {
            if (!Modifier.isStatic(field.getModifiers())) {
                parts++;
                field.setAccessible(true);
                if (!field.getType().isPrimitive()) {
                    add(field.get(object));
                }
            }
        }
    }

    private void addArray(Object array) throws IllegalAccessException {
        int length = Array.getLength(array);
        parts += length;
        for (int i = 0; i < length && !array.getClass().getComponentType().isPrimitive(); i++) {
            add(Array.get(array, i));
        }
    }
}
