import java.lang.reflect.Array;
import java.lang.reflect.Field;
import java.lang.reflect.Modifier;
import java.util.IdentityHashMap;
import java.util.Map;

/** All calls of a run share one room: an object is small, keeps nothing more, and calls end. */
public final class RoomTest {
    private static final Check CHECK = new Check();
    private static final long CALLS = 512;
    private static final long MOST_OBJECTS = 600000;
    private static final long MOST_ELEMENTS = 7300000;

    private RoomTest() {
    }

    public static void main(String[] args) throws Exception {
        long[] fresh = room(new RoundBounds(12));
        System.out.println("a new object: " + fresh[0] + " objects, " + fresh[1] + " elements");
        CHECK.due("objects, if every call made a new one", fresh[0] * CALLS < MOST_OBJECTS, true);
        CHECK.due("elements, if every call made a new one", fresh[1] * CALLS < MOST_ELEMENTS, true);
        RoundBounds x = new RoundBounds(12);
        for (int call = 0; call < CALLS; call++) {
            use(x, call);
        }
        long[] used = room(x);
        CHECK.due("objects after use", used[0], fresh[0]);
        CHECK.due("elements after use", used[1], fresh[1]);
        CHECK.end();
    }

    private static void use(RoundBounds x, int call) {
        switch (call % 11) {
            case 0:
                x.tree(50);
                break;
            case 1:
                x.assign();
                break;
            case 2:
                x.cut(call % 12, call % 7);
                break;
            case 3:
                x.postman(false);
                break;
            case 4:
                x.postman(true);
                break;
            case 5:
                x.certificate(call * 7919);
                break;
            default:
                x.way(call * 5 % 12, call * 7 % 11, call % 50);
                break;
        }
    }

    private static long[] room(Object root) throws IllegalAccessException {
        Map<Object, Boolean> seen = new IdentityHashMap<>();
        long[] sums = new long[2];
        count(root, seen, sums);
        return sums;
    }

    private static void count(Object at, Map<Object, Boolean> seen, long[] sums)
            throws IllegalAccessException {
        if (at == null || seen.put(at, true) != null) {
            return;
        }
        sums[0]++;
        if (at.getClass().isArray()) {
            sums[1] += Array.getLength(at);
            if (!at.getClass().getComponentType().isPrimitive()) {
                for (int i = 0; i < Array.getLength(at); i++) {
                    count(Array.get(at, i), seen, sums);
                }
            }
            return;
        }
        for (Field f : at.getClass().getDeclaredFields()) {
            if (!Modifier.isStatic(f.getModifiers())) {
                sums[1]++;
                if (!f.getType().isPrimitive()) {
                    f.setAccessible(true);
                    count(f.get(at), seen, sums);
                }
            }
        }
    }
}
