import com.sun.management.ThreadMXBean;
import java.lang.management.ManagementFactory;
import java.lang.reflect.Array;
import java.lang.reflect.Constructor;
import java.lang.reflect.Field;
import java.lang.reflect.Method;
import java.lang.reflect.Modifier;
import java.util.Set;
import java.util.TreeSet;

/** The public face, what else may be seen from outside (nothing), and the room an object takes. */
final class FaceTest {
    private static final Set<String> FACE = Set.of(
            "public boolean SliceChecks.kind(int,long,long,boolean,boolean,long)",
            "public boolean SliceChecks.feed(int,int)",
            "public void SliceChecks.clear()",
            "public boolean SliceChecks.flip(int)",
            "public long SliceChecks.check(int)",
            "public long SliceChecks.part(int,int)",
            "public long SliceChecks.joined(long,long,int)",
            "public long SliceChecks.entry(int,int)",
            "public long SliceChecks.zeros(long,int)",
            "public int SliceChecks.round()",
            "public boolean SliceChecks.holds()",
            "public int SliceChecks.count(int)",
            "public long SliceChecks.told(int)",
            "public SliceChecks()",
            "public static final int SliceChecks.BAD");
    private static final int CALLS = Run.MOST_CALLS;
    private static final int FACE_METHODS = 13;
    private static final int ROOM_OBJECTS = 600_000;
    private static final int ROOM_ELEMENTS = 7_300_000;

    public static void main(String[] args) throws IllegalAccessException {
        Due due = new Due();
        due.sentence("the public face");
        due.same("public and final", SliceChecks.class.getModifiers(), Modifier.PUBLIC | Modifier.FINAL);
        Set<String> seen = seenFromOutside(due);
        due.same("the face is " + new TreeSet<>(seen), seen.equals(FACE), true);
        room(due);
        callsMakeNothing(due);
        due.end();
    }

    private static Set<String> seenFromOutside(Due due) {
        Set<String> seen = new TreeSet<>();
        Set<String> publicNames = new TreeSet<>();
        for (Method method : SliceChecks.class.getDeclaredMethods()) {
            if (!Modifier.isPrivate(method.getModifiers())) {
                seen.add(method.toString());
                publicNames.add(method.getName());
            }
        }
        for (Method method : SliceChecks.class.getDeclaredMethods()) {
            boolean hidden = Modifier.isPrivate(method.getModifiers());
            due.same(method + " bears the name of a public one",
                    hidden && publicNames.contains(method.getName()), false);
        }
        for (Field field : SliceChecks.class.getDeclaredFields()) {
            if (!Modifier.isPrivate(field.getModifiers())) {
                seen.add(field.toString());
            }
            due.same(field + " is static and can change", isStaticAndOpen(field), false);
        }
        for (Constructor<?> constructor : SliceChecks.class.getDeclaredConstructors()) {
            seen.add(constructor.toString());
        }
        return seen;
    }

    private static boolean isStaticAndOpen(Field field) {
        int modifiers = field.getModifiers();
        return Modifier.isStatic(modifiers) && !Modifier.isFinal(modifiers);
    }

    /** No call but the constructor makes anything, so 512 new objects are the dearest run. */
    private static void room(Due due) throws IllegalAccessException {
        due.sentence("the room of all calls");
        int objects = 1;
        int elements = 0;
        SliceChecks x = new SliceChecks();
        for (Field field : SliceChecks.class.getDeclaredFields()) {
            if (Modifier.isStatic(field.getModifiers())) {
                continue;
            }
            elements++;
            if (field.getType().isArray()) {
                field.setAccessible(true);
                objects++;
                elements += Array.getLength(field.get(x));
            }
        }
        due.same(objects + " objects an object fit the room", objects * CALLS <= ROOM_OBJECTS, true);
        due.same(elements + " elements an object fit the room", elements * CALLS <= ROOM_ELEMENTS, true);
    }

    /** A first run may load what the Java library needs; the second one shows the calls alone. */
    private static void callsMakeNothing(Due due) {
        due.sentence("no call but the constructor makes an object or an array");
        if (!(ManagementFactory.getThreadMXBean() instanceof ThreadMXBean threads)) {
            return;
        }
        long made = 0;
        for (int i = 0; i < 2; i++) {
            SliceChecks x = new SliceChecks();
            long before = threads.getCurrentThreadAllocatedBytes();
            everyCall(x);
            made = threads.getCurrentThreadAllocatedBytes() - before;
        }
        due.same(made + " bytes made by " + CALLS + " calls", made < CALLS, true);
    }

    private static void everyCall(SliceChecks x) {
        for (int i = 0; i < CALLS / FACE_METHODS; i++) {
            x.kind(1 + i, -i, i, i % 2 == 0, i % 3 == 0, ~i);
            x.feed(i, 100 + i);
            x.flip(i);
            x.check(i % 5);
            x.part(i, 3 * i);
            x.joined(i, -i, Integer.MAX_VALUE - i);
            x.entry(i % 8, i);
            x.zeros(-i, 1_000_000 - i);
            x.round();
            x.holds();
            x.count(i);
            x.told(i);
            if (i % 30 == 29) {
                x.clear();
            }
        }
    }
}
