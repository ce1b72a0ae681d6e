import java.lang.reflect.InvocationTargetException;
import java.lang.reflect.Method;
import java.lang.reflect.Modifier;

/** No call throws, whatever it is given, in any state (LANGUAGE.md, rule 7); each answer is one that there is. */
final class AnyTest {
    private static final int[] GIVEN = {Integer.MIN_VALUE, -1, 0, 1, 3, 12, 60, Integer.MAX_VALUE};
    private static final Check c = new Check();

    private static SnowHouse[] states() {
        SnowHouse empty = new SnowHouse();
        SnowHouse begun = Check.begun("r4c3w2", "r4:2 s4:3 r12:0 r1:9", 2);
        SnowHouse half = Check.begun("r4c3w2", "r12:2 s12:3 r12:0 r12:0 s12:9", 1);
        half.go(30);
        half.row(0, 60);
        half.row(3, 0);
        SnowHouse door = Check.built("r4c0w2", "r4:0 r4:4 r12:0", 1);
        door.keep(0);
        door.door(3);
        for (int k = 1; k < 4; k++) Check.plan(door, k, "r" + (2 * k) + ":1");
        return new SnowHouse[] {empty, begun, half, door};
    }

    private static Object[] arguments(Method m, int which) {
        Object[] given = new Object[m.getParameterCount()];
        for (int i = 0; i < given.length; i++) {
            int v = GIVEN[which % GIVEN.length];
            given[i] = m.getParameterTypes()[i] == boolean.class ? (Object) (v > 0) : (Object) v;
            which /= GIVEN.length;
        }
        return given;
    }

    private static void tryAll(SnowHouse x, Method m) throws IllegalAccessException {
        int ways = (int) Math.pow(GIVEN.length, m.getParameterCount());
        // six numbers have too many ways to try them all: a step that shares nothing with 8 still meets each value
        int step = ways > 40000 ? 13 : 1;
        for (int which = 0; which < ways; which += step) {
            try {
                long answer = ((Number) m.invoke(x, arguments(m, which))).longValue();
                if (m.getReturnType() == int.class) c.due(m.getName() + ", below the refusals", answer < -9 ? 1 : 0, 0);
            } catch (InvocationTargetException thrown) {
                c.due(m.getName() + " of way " + which + " threw " + thrown.getCause(), 1, 0);
            }
        }
    }

    public static void main(String[] args) throws IllegalAccessException {
        for (SnowHouse x : states()) {
            for (Method m : SnowHouse.class.getDeclaredMethods()) {
                boolean told = m.getName().equals("asked");
                if (Modifier.isPublic(m.getModifiers()) && !told) tryAll(x, m);
            }
        }
        c.end("AnyTest");
    }
}
