import java.lang.reflect.Array;
import java.lang.reflect.Field;
import java.lang.reflect.Modifier;
import java.util.ArrayDeque;
import java.util.Collections;
import java.util.Deque;
import java.util.IdentityHashMap;
import java.util.Set;

/** All objects of a run share 600,000 objects and 7.3 million elements: a new one is small, a used one bounded. */
public final class RoomTest {
    private static final int MOST_OBJECTS_NEW = 600000 / 1024;
    private static final int MOST_ELEMENTS_NEW = 7300000 / 1024;
    private static final int MOST_ELEMENTS_USED = (80 + 34 + 2) * 1024 + MOST_ELEMENTS_NEW;

    public static void main(String[] args) throws IllegalAccessException {
        long[] fresh = room(new BlockVault(80));
        Due.yes("objects of a new one: " + fresh[0], fresh[0] <= MOST_OBJECTS_NEW);
        Due.yes("elements of a new one: " + fresh[1], fresh[1] <= MOST_ELEMENTS_NEW);
        BlockVault x = new BlockVault(80);
        useAll(x);
        long[] used = room(x);
        Due.yes("elements of a used one: " + used[1], used[1] <= MOST_ELEMENTS_USED);
        Set<Object> before = parts(x);
        useAll(x);
        Due.is("made anew by using it again", newParts(before, x), 0);
        Due.finish();
    }

    /** Every row, every block and the whole log, by less than half of the calls that an object is used for. */
    private static void useAll(BlockVault x) {
        Due.change(x, 0, 30, 1);
        Due.change(x, 19, 30, 2);
        x.cut(15);
        Due.change(x, 0, 10, 9);
        x.flush();
        x.power(-1);
        Due.look(x, 0, Due.USABLE);
    }

    private static long newParts(Set<Object> before, BlockVault x) throws IllegalAccessException {
        long n = 0;
        for (Object part : parts(x)) {
            n += before.contains(part) ? 0 : 1;
        }
        return n;
    }

    private static long[] room(BlockVault x) throws IllegalAccessException {
        long elements = 0;
        Set<Object> all = parts(x);
        for (Object part : all) {
            elements += part.getClass().isArray() ? Array.getLength(part) : fields(part);
        }
        return new long[] {all.size(), elements};
    }

    private static long fields(Object part) {
        long n = 0;
        for (Field f : part.getClass().getDeclaredFields()) {
            n += Modifier.isStatic(f.getModifiers()) ? 0 : 1;
        }
        return n;
    }

    private static Set<Object> parts(BlockVault x) throws IllegalAccessException {
        Set<Object> seen = Collections.newSetFromMap(new IdentityHashMap<>());
        Deque<Object> open = new ArrayDeque<>();
        open.add(x);
        while (!open.isEmpty()) {
            Object part = open.remove();
            if (seen.add(part)) {
                addPartsOf(part, open);
            }
        }
        return seen;
    }

    private static void addPartsOf(Object part, Deque<Object> open) throws IllegalAccessException {
        if (part instanceof Object[] row) {
            for (Object element : row) {
                addIfThere(element, open);
            }
        } else if (!part.getClass().isArray()) {
            for (Field f : part.getClass().getDeclaredFields()) {
                if (!Modifier.isStatic(f.getModifiers()) && !f.getType().isPrimitive()) {
                    f.setAccessible(true);
                    addIfThere(f.get(part), open);
                }
            }
        }
    }

    private static void addIfThere(Object part, Deque<Object> open) {
        if (part != null) {
            open.add(part);
        }
    }
}
