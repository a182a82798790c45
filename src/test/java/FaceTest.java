import java.lang.reflect.Constructor;
import java.lang.reflect.Field;
import java.lang.reflect.Method;
import java.lang.reflect.Modifier;
import java.util.Map;
import java.util.TreeMap;

/** The face of the class: the document's constants, constructor and methods, and no other that can be seen. */
public final class FaceTest {
    private static final String[] METHODS = {
        "floor 1", "told 2", "as 2", "turns 2", "sea 2", "sand 2", "heap 3", "deal 1", "seed 1", "lift 3", "run 2",
        "crest 2", "apart 1", "flat 2", "soon 2", "period 1", "foot 3", "worm 2", "press 2", "unlike 2", "turned 3",
        "seen 3", "best 3", "feed 3", "trim 1", "text 0", "textTold 2", "why 1", "sheet 3", "mark 3", "pour 2",
        "reads 2", "copy 5", "lay 3", "ask 2", "item 2", "rest 2", "tell 1", "check 2", "keep 0", "back 0", "count 1"};
    private static final String NAMES = " " + String.join(" ", METHODS) + " ";

    public static void main(String[] args) throws Exception {
        Due.holds("public final class", Modifier.isPublic(SandRipples.class.getModifiers())
            && Modifier.isFinal(SandRipples.class.getModifiers()));
        constants();
        constructor();
        methods();
        classesInside();
        Due.end();
    }

    private static void constants() throws Exception {
        Map<String, Integer> due = new TreeMap<>();
        due.put("BAD", -1000000001);
        due.put("NO", -1000000002);
        due.put("FULL", -1000000003);
        due.put("NONE", -1000000005);
        due.put("NOTHING", -1000000011);
        due.put("KIND", -1000000012);
        due.put("INDEX", -1000000013);
        due.put("SIZE", -1000000014);
        for (Field f : SandRipples.class.getDeclaredFields()) {
            if (!Modifier.isPrivate(f.getModifiers())) {
                Integer want = due.remove(f.getName());
                Due.holds("constant " + f.getName(), want != null && Modifier.isPublic(f.getModifiers())
                    && Modifier.isStatic(f.getModifiers()) && Modifier.isFinal(f.getModifiers())
                    && f.getType() == int.class && f.getInt(null) == want);
            }
        }
        Due.is("constants that are missing", 0, due.size());
    }

    private static void constructor() {
        Constructor<?>[] all = SandRipples.class.getDeclaredConstructors();
        Due.is("constructors", 1, all.length);
        Due.holds("public SandRipples()", Modifier.isPublic(all[0].getModifiers()) && all[0].getParameterCount() == 0);
    }

    private static void methods() {
        Map<String, Boolean> due = new TreeMap<>();
        Map<String, Boolean> names = new TreeMap<>();
        for (String m : METHODS) {
            due.put(m, true);
            names.put(m.substring(0, m.indexOf(' ')), true);
        }
        for (Method m : SandRipples.class.getDeclaredMethods()) {
            if (Modifier.isPrivate(m.getModifiers())) {
                Due.holds("private " + m.getName() + " bears a name of its own", !names.containsKey(m.getName()));
                continue;
            }
            boolean ints = m.getReturnType() == int.class;
            for (Class<?> p : m.getParameterTypes()) {
                ints &= p == int.class;
            }
            Due.holds("method " + m, due.remove(m.getName() + " " + m.getParameterCount()) != null && ints
                && Modifier.isPublic(m.getModifiers()) && !Modifier.isStatic(m.getModifiers()));
        }
        Due.holds("methods that are missing: " + due.keySet(), due.isEmpty());
    }

    private static void classesInside() {
        for (Class<?> c : SandRipples.class.getDeclaredClasses()) {
            Due.holds(c + " is static and not public", Modifier.isStatic(c.getModifiers())
                && !Modifier.isPublic(c.getModifiers()) && !Modifier.isProtected(c.getModifiers()));
            Due.holds(c + " has no classes inside", c.getDeclaredClasses().length == 0);
            fields(c);
            for (Method m : c.getDeclaredMethods()) {
                Due.holds(m + " is private", Modifier.isPrivate(m.getModifiers()));
                Due.holds(m + " bears a name of its own", !NAMES.contains(" " + m.getName() + " "));
            }
        }
        fields(SandRipples.class);
        Due.holds("at most twelve classes", SandRipples.class.getDeclaredClasses().length <= 11);
    }

    private static void fields(Class<?> c) {
        int many = 0;
        for (Field f : c.getDeclaredFields()) {
            if (!Modifier.isStatic(f.getModifiers())) {
                many++;
                Due.holds(f + " is private", Modifier.isPrivate(f.getModifiers()));
            }
        }
        Due.holds(c + " has at most twenty fields", many <= 20);
    }
}
