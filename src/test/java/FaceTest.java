import java.lang.reflect.Constructor;
import java.lang.reflect.Field;
import java.lang.reflect.Method;
import java.lang.reflect.Modifier;
import java.util.Arrays;
import java.util.TreeSet;

/** The public face of the document, and nothing beside it that others could see (LANGUAGE.md, rule 1). */
final class FaceTest {
    private static final String METHODS = """
            int row(int,int)
            int lay(int,int,int)
            int at(int,int)
            int tear(int)
            int copy(int,int,int,int,int)
            int mean(int)
            int text(int,int)
            int put(int,int,int)
            int fault(int,boolean)
            int snow(int,int)
            int plan(int,int)
            int about(int,int)
            int tells(int,int)
            int course(int,int)
            int house(int,int,int)
            int go(int)
            int block(int,int)
            int pull(int)
            int mark(int,int)
            int door(int)
            int keep(int)
            int on(int)
            int slumped()
            int falls()
            int pace(int)
            int lean(int)
            int slow()
            int spiral()
            int fell(int)
            int odds()
            int storm(int,int,int,int)
            int halls(int,int,int)
            int quarry(int)
            int air(int,int,int,int,int,int)
            int layer(int,int,int,int,int,int)
            int hole(int,int,int)
            int drips(int,int,int)
            int lasts(int,int,int)
            int scrape(int,int)
            int asked()
            long upper()
            long lower()
            int count(int)
            int finding()
            int findings(int)
            long digest()
            """;

    private static final Check c = new Check();

    private static String signature(Method m) {
        StringBuilder text = new StringBuilder(m.getReturnType().getSimpleName() + " " + m.getName() + "(");
        String[] types = Arrays.stream(m.getParameterTypes()).map(Class::getSimpleName).toArray(String[]::new);
        return text.append(String.join(",", types)).append(")").toString();
    }

    private static void methods() {
        c.at("methods");
        TreeSet<String> wanted = new TreeSet<>(Arrays.asList(METHODS.strip().split("\\s*\n\\s*")));
        TreeSet<String> names = new TreeSet<>();
        for (String w : wanted) names.add(w.replaceAll(".* |\\(.*", ""));
        c.due("how many", wanted.size(), 46);
        TreeSet<String> seen = new TreeSet<>();
        for (Method m : SnowHouse.class.getDeclaredMethods()) {
            if (m.isSynthetic()) continue;
            if (!Modifier.isPrivate(m.getModifiers())) seen.add(signature(m));
            if (Modifier.isPrivate(m.getModifiers())) c.due(m + " bears a public name", names.contains(m.getName()) ? 1 : 0, 0);
            if (Modifier.isPublic(m.getModifiers())) c.due(m + " is of the object", Modifier.isStatic(m.getModifiers()) ? 1 : 0, 0);
        }
        for (String w : wanted) c.due(w + " is there", seen.contains(w) ? 1 : 0, 1);
        for (String s : seen) c.due(s + " is wanted", wanted.contains(s) ? 1 : 0, 1);
    }

    private static void constants() {
        c.at("constants");
        c.due("BAD", SnowHouse.BAD, -1);
        c.due("FULL", SnowHouse.FULL, -2);
        c.due("FINDING", SnowHouse.FINDING, -3);
        c.due("STATE", SnowHouse.STATE, -4);
        c.due("SPENT", SnowHouse.SPENT, -6);
        c.due("NONE", SnowHouse.NONE, -9);
        int open = 0;
        for (Field f : SnowHouse.class.getDeclaredFields()) {
            if (!Modifier.isPrivate(f.getModifiers()) && !f.isSynthetic()) open++;
            if (Modifier.isStatic(f.getModifiers())) c.due(f + " is final", Modifier.isFinal(f.getModifiers()) ? 1 : 0, 1);
        }
        c.due("fields that others see", open, 6);
    }

    private static void classes() {
        c.at("classes");
        c.due("public and final", SnowHouse.class.getModifiers(), Modifier.PUBLIC | Modifier.FINAL);
        Constructor<?>[] made = SnowHouse.class.getDeclaredConstructors();
        c.due("constructors", made.length, 1);
        c.due("its parameters", made[0].getParameterCount(), 0);
        c.due("it is public", Modifier.isPublic(made[0].getModifiers()) ? 1 : 0, 1);
        for (Class<?> inside : SnowHouse.class.getDeclaredClasses()) {
            int open = Modifier.PUBLIC | Modifier.PROTECTED;
            c.due(inside + " is not seen", inside.getModifiers() & open, 0);
            c.due(inside + " is static", Modifier.isStatic(inside.getModifiers()) ? 1 : 0, 1);
        }
    }

    public static void main(String[] args) {
        methods();
        constants();
        classes();
        c.end("FaceTest");
    }
}
