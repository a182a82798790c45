import java.nio.file.Files;
import java.nio.file.Path;
import java.util.HashMap;
import java.util.Map;
import java.util.Set;
import java.util.TreeMap;
import java.util.TreeSet;
import java.util.regex.Matcher;
import java.util.regex.Pattern;

/** What of ../shared/LANGUAGE.md can be seen in the text of the class alone. */
public final class LanguageTest {
    private static final String[] NEVER = {
        "\\bthrow\\b", "\\bthrows\\b", "\\btry\\b", "\\bcatch\\b", "\\bfinally\\b", "\\bsynchronized\\b",
        "\\bassert\\b", "\\bimport\\b", "\\bpackage\\b", "->", "::", "\\w+Exact\\b", "\\bThread\\b", "\\bRandom\\b",
        "\\bnative\\b", "\\bvolatile\\b", "\\bprotected\\b", "\\bObject\\b", "\\bequals\\b", "\\bhashCode\\b",
        "\\btoString\\b", "\\bnull\\b", "NaN", "static\\s*\\{", "\\bfor\\s*\\(\\s*;\\s*;", "while\\s*\\(\\s*true",
        "\\b[A-Z][A-Z_]+\\[[^\\]]*\\]\\s*(=(?!=)|[-+*/%&|^]=|\\+\\+|--)", "\\[\\]\\[\\]\\[\\]", "\\bstrictfp\\b",
        "\\bdouble\\b", "\\bfloat\\b", "\\bvar\\b"};
    private static final Pattern STATIC_FIELD = Pattern.compile("static\\s+(?!final\\b)[\\w\\[\\]]+\\s+\\w+\\s*[=;]");
    private static final Pattern LIBRARY = Pattern.compile("\\b([A-Z][a-z]\\w*\\.\\w+)\\b");
    private static final Set<String> ALLOWED = Set.of(
        "Math.abs", "Math.max", "Math.min", "Math.floorMod", "Integer.compare", "Integer.MAX_VALUE",
        "System.arraycopy");
    private static final Pattern METHOD =
        Pattern.compile("^ +(?:public|private)((?: static| final)*)(?: (\\w+(?:\\[\\])?))? (\\w+)\\(([^)]*)\\) \\{$");
    private static final Pattern CALLED = Pattern.compile("\\b(\\w+)\\(");
    private static final int MOST_LINES = 60, MOST_PARAMETERS = 7, MOST_DEEP = 8;

    public static void main(String[] args) throws Exception {
        String source = Files.readString(Path.of("src/main/java/SandRipples.java"));
        for (int i = 0; i < source.length(); i++) {
            Due.holds("an ASCII sign at " + i, source.charAt(i) < 128);
        }
        String code = source.replaceAll("(?s)/\\*.*?\\*/", "").replaceAll("//[^\n]*", "");
        code = code.replaceAll("\"[^\"\n]*\"", "\"\"");
        for (String never : NEVER) {
            Due.holds("the class without '" + never + "'", !Pattern.compile(never).matcher(code).find());
        }
        Due.holds("static fields are final", !STATIC_FIELD.matcher(code).find());
        Matcher library = LIBRARY.matcher(code);
        while (library.find()) {
            Due.holds(library.group(1) + " is one that the class may use", ALLOWED.contains(library.group(1)));
        }
        depths(methods(code.split("\n")));
        Due.end();
    }

    /** Each method's name with its body; the bodies of methods with one name are joined. */
    private static Map<String, String> methods(String[] lines) {
        Map<String, String> bodies = new TreeMap<>();
        for (int i = 0; i < lines.length; i++) {
            Matcher m = METHOD.matcher(lines[i]);
            if (m.matches()) {
                String end = lines[i].substring(0, lines[i].length() - lines[i].stripLeading().length()) + "}";
                StringBuilder body = new StringBuilder();
                int last = i + 1;
                while (last < lines.length && !lines[last].equals(end)) {
                    body.append(lines[last]).append('\n');
                    last++;
                }
                String name = m.group(3);
                Due.holds(name + " has at most sixty lines", last - i <= MOST_LINES);
                Due.holds(name + " has at most seven parameters", m.group(4).split(",").length <= MOST_PARAMETERS);
                bodies.merge(name, body.toString(), String::concat);
            }
        }
        Due.holds("methods were found", bodies.size() > 100);
        return bodies;
    }

    private static void depths(Map<String, String> bodies) {
        Map<String, Integer> known = new HashMap<>();
        for (String name : bodies.keySet()) {
            int deep = depth(name, bodies, known, new TreeSet<>());
            Due.holds(name + " goes " + deep + " calls deep, eight at most", deep <= MOST_DEEP);
        }
    }

    /** How many calls stand open at most, this one and those of the library with it. */
    private static int depth(String name, Map<String, String> bodies, Map<String, Integer> known, Set<String> open) {
        if (!bodies.containsKey(name)) {
            return 1;
        }
        if (known.containsKey(name)) {
            return known.get(name);
        }
        boolean again = !open.add(name);
        Due.holds(name + " is not called while it is open", !again);
        if (again) {
            return 1;
        }
        int most = 0;
        Matcher m = CALLED.matcher(bodies.get(name));
        while (m.find()) {
            String called = m.group(1);
            if (!called.matches("if|for|while|switch|return")) {
                most = Math.max(most, depth(called, bodies, known, open));
            }
        }
        open.remove(name);
        known.put(name, most + 1);
        return most + 1;
    }
}
