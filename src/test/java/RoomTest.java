import com.sun.management.ThreadMXBean;
import java.lang.management.ManagementFactory;
import java.lang.reflect.Array;
import java.lang.reflect.Field;
import java.lang.reflect.Modifier;
import java.util.Collections;
import java.util.IdentityHashMap;
import java.util.Set;

/** All rows are made in the constructor: calls behind it make nothing, and an object stays as small as README.md says. */
public final class RoomTest {
    private static final int ELEMENTS_MOST = 34_500;
    private static final int OBJECTS_MOST = 50;

    private static final Check C = new Check();
    private static final ThreadMXBean MEMORY = (ThreadMXBean) ManagementFactory.getThreadMXBean();

    public static void main(String[] args) throws Exception {
        calls(new ObjectFile());
        long before = allocated();
        ObjectFile x = new ObjectFile();
        long constructor = allocated() - before;
        C.that(constructor < 100_000, "the constructor makes " + constructor + " bytes");
        small(x);
        before = allocated();
        calls(x);
        long calls = allocated() - before;
        C.that(calls < 20_000, "the calls make " + calls + " bytes");
        small(x);
        C.end();
    }

    private static long allocated() {
        return MEMORY.getThreadAllocatedBytes(Thread.currentThread().getId());
    }

    private static void small(ObjectFile x) throws IllegalAccessException {
        Set<Object> met = Collections.newSetFromMap(new IdentityHashMap<>());
        long elements = elementsOf(x, met);
        C.that(elements <= ELEMENTS_MOST, "an object has " + elements + " fields and elements");
        C.that(met.size() <= OBJECTS_MOST, "an object is made of " + met.size() + " objects and arrays");
    }

    /** The fields and elements of all that is reached and was not met before. */
    private static long elementsOf(Object thing, Set<Object> met) throws IllegalAccessException {
        if (thing == null || !met.add(thing)) {
            return 0;
        }
        if (thing.getClass().isArray()) {
            return Array.getLength(thing);
        }
        long found = 0;
        for (Field f : thing.getClass().getDeclaredFields()) {
            if (!Modifier.isStatic(f.getModifiers())) {
                f.setAccessible(true);
                found += 1 + (f.getType().isPrimitive() ? 0 : elementsOf(f.get(thing), met));
            }
        }
        return found;
    }

    private static void calls(ObjectFile x) {
        for (int k = 0; k < 50; k++) {
            x.put(k % 3, 8, 0);
            x.start(2 * k);
            x.letter(65 + k % 26);
            x.letter(33 + k);
            x.symbol(4, k, k, k % 3, 0);
            x.relocation(0, 0, 51, -1, 0);
            C.that(x.write() > 0, "write");
            C.due("read", x.read(), 0);
            x.keep();
        }
    }
}
