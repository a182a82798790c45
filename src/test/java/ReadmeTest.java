import java.lang.reflect.Method;
import java.lang.reflect.Modifier;
import java.nio.file.Files;
import java.nio.file.Path;
import java.util.TreeSet;
import java.util.regex.Matcher;
import java.util.regex.Pattern;

/** README.md: each call that it shows answers what stands behind it, and each call of the face is shown. */
public final class ReadmeTest {
    private static final Pattern MADE = Pattern.compile("SandRipples x = new SandRipples\\(\\);");
    private static final Pattern CALL = Pattern.compile("x\\.(\\w+)\\(([^)]*)\\); *// (-?\\w+)(?:, .*)?");

    public static void main(String[] args) throws Exception {
        TreeSet<String> shown = new TreeSet<>();
        SandRipples x = null;
        boolean inBlock = false;
        int number = 0;
        for (String line : Files.readAllLines(Path.of("README.md"))) {
            number++;
            if (line.startsWith("```")) {
                inBlock = line.equals("```java");
                x = null;
            } else if (inBlock && MADE.matcher(line).matches()) {
                x = new SandRipples();
            } else if (inBlock) {
                Matcher m = CALL.matcher(line);
                boolean read = m.matches() && x != null;
                Due.holds("README.md, line " + number + ": a call with its answer", read);
                if (read) {
                    int got = answer(x, m.group(1), m.group(2));
                    Due.is("README.md, line " + number + ": " + line, valueOf(m.group(3)), got);
                    shown.add(m.group(1));
                }
            }
        }
        for (Method m : SandRipples.class.getDeclaredMethods()) {
            if (Modifier.isPublic(m.getModifiers())) {
                Due.holds("README.md shows " + m.getName(), shown.contains(m.getName()));
            }
        }
        Due.end();
    }

    private static int answer(SandRipples x, String name, String list) throws Exception {
        String[] words = list.isBlank() ? new String[0] : list.split(", ");
        Class<?>[] types = new Class<?>[words.length];
        Object[] values = new Object[words.length];
        for (int i = 0; i < words.length; i++) {
            types[i] = int.class;
            values[i] = valueOf(words[i]);
        }
        return (Integer) SandRipples.class.getMethod(name, types).invoke(x, values);
    }

    /** A number, or one of the constants by its name. */
    private static int valueOf(String word) throws Exception {
        if (word.matches("-?[0-9].*")) {
            return Integer.decode(word);
        }
        return SandRipples.class.getField(word.replace("SandRipples.", "")).getInt(null);
    }
}
