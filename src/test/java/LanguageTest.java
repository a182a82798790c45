import java.nio.file.Files;
import java.nio.file.Path;
import java.util.regex.Matcher;
import java.util.regex.Pattern;

/** What of ../shared/LANGUAGE.md can be seen in the text of the class alone. */
public final class LanguageTest {
    private static final String[] NEVER = {
        "\\bthrow\\b", "\\bthrows\\b", "\\btry\\b", "\\bcatch\\b", "\\bfinally\\b", "\\bsynchronized\\b", "\\bassert\\b",
        "\\bimport\\b", "\\bpackage\\b", "->", "::", "\\bExact\\b", "\\bSystem\\.(?!arraycopy\\b)", "\\bThread\\b",
        "\\bRandom\\b", "\\bnative\\b", "\\bvolatile\\b", "\\bprotected\\b", "\\bObject\\b", "\\bequals\\b",
        "\\bhashCode\\b", "\\btoString\\b", "\\bnull\\b", "NaN", "static\\s*\\{", "\\bfor\\s*\\(\\s*;\\s*;", "while\\s*\\(\\s*true"};
    private static final Pattern STATIC_FIELD = Pattern.compile("static\\s+(?!final\\b)[\\w\\[\\]]+\\s+\\w+\\s*[=;]");
    private static final Pattern METHOD = Pattern.compile("^ +(?:public|private)[\\w\\[\\] ]* (\\w+)\\(([^)]*)\\) \\{$");

    public static void main(String[] args) throws Exception {
        String source = Files.readString(Path.of("src/main/java/SandRipples.java"));
        for (int i = 0; i < source.length(); i++) {
            Due.holds("an ASCII sign at " + i, source.charAt(i) < 128);
        }
        String code = source.replaceAll("(?s)/\\*.*?\\*/", "").replaceAll("//[^\n]*", "").replaceAll("\"[^\"\n]*\"", "\"\"");
        for (String never : NEVER) {
            Matcher m = Pattern.compile(never).matcher(code);
            Due.holds("the class without '" + never + "'", !m.find());
        }
        Due.holds("static fields are final", !STATIC_FIELD.matcher(code).find());
        methods(code.split("\n"));
        Due.end();
    }

    private static void methods(String[] lines) {
        for (int i = 0; i < lines.length; i++) {
            Matcher m = METHOD.matcher(lines[i]);
            if (m.matches()) {
                String end = lines[i].substring(0, lines[i].length() - lines[i].stripLeading().length()) + "}";
                int last = i;
                while (last < lines.length && !lines[last].equals(end)) {
                    last++;
                }
                Due.holds(m.group(1) + " has at most sixty lines", last - i <= 60);
                Due.holds(m.group(1) + " has at most seven parameters", m.group(2).split(",").length <= 7);
            }
        }
    }
}
