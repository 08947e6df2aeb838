import java.lang.reflect.Field;
import java.lang.reflect.Method;
import java.lang.reflect.Modifier;
import java.nio.file.Files;
import java.nio.file.Path;
import java.util.List;
import java.util.regex.Pattern;

/** What can be seen of ../shared/LANGUAGE.md in the source's own lines. */
public final class LanguageTests {
    private static final String[] NEVER = {
        "->", "::", "\\bcatch\\b", "\\btry\\b", "\\bfinally\\b", "\\bassert\\b", "\\bsynchronized\\b", "\\binstanceof\\b", "\\bNaN\\b",
        "Exact\\(", "\\bString\\.format\\b", "\\bSystem\\b", "\\bprotected\\b", "\\bpackage\\b", "static \\{", "\\bvar\\b", "\\bwhile \\(true",
        "for \\(;;", "\\bjava\\.util\\.(?!NoSuchElementException)", "\\bequals\\(", "\\bhashCode\\b", "\\btoString\\b", "\\bdouble\\b",
        "\\bfloat\\b", "\\bvolatile\\b", "\\bnative\\b",
    };
    private static int wrong = 0;

    public static void main(String[] args) throws Exception {
        List<String> lines = Files.readAllLines(Path.of("src/main/java/SetsStayTogether.java"));
        StringBuilder code = new StringBuilder();
        for (String line : lines) {
            boolean comment = line.trim().startsWith("//") || line.trim().startsWith("/*") || line.trim().startsWith("*");
            code.append(comment ? "" : line).append('\n');
        }
        String all = code.toString();
        for (String never : NEVER) {
            if (Pattern.compile(never).matcher(all).find()) {
                bad("found: " + never);
            }
        }
        for (int i = 0; i < all.length(); i++) {
            if (all.charAt(i) > 126) {
                bad("a sign above 126");
            }
        }
        sizes(lines);
        madeOnce(all);
        System.out.println(wrong == 0 ? "the language is kept, as far as is seen here" : wrong + " faults");
        if (wrong != 0) {
            System.exit(1);
        }
    }

    private static void bad(String what) {
        wrong++;
        System.out.println(what);
    }

    /** All calls of one run share a room for objects: they are made with their owner, but for what is thrown. */
    private static void madeOnce(String all) {
        for (String line : all.split("\n")) {
            boolean field = line.matches(" {4}(private | {4})(static )?final .*=.*");
            if (line.matches(".*\\bnew\\b.*") && !field && !line.contains("throw new NoSuchElementException(\"")) {
                bad("made by a call: " + line.trim());
            }
        }
    }

    private static void sizes(List<String> lines) {
        int begun = 0;
        String name = "";
        for (int i = 0; i < lines.size(); i++) {
            String line = lines.get(i);
            if (line.matches("( {4}| {8})(public |private )?(static )?[\\w\\[\\]]+ \\w+\\(.*\\{")) {
                begun = i;
                name = line.trim();
            }
            if (line.matches("( {4}| {8})\\}") && !name.isEmpty()) {
                if (i - begun > 45) {
                    bad("long: " + name);
                }
                name = "";
            }
        }
        Class<?>[] inner = SetsStayTogether.class.getDeclaredClasses();
        if (inner.length > 11) {
            bad("classes inside: " + inner.length);
        }
        sizes(SetsStayTogether.class);
        for (Class<?> c : inner) {
            sizes(c);
        }
    }

    private static void sizes(Class<?> c) {
        int fields = 0;
        for (Field f : c.getDeclaredFields()) {
            fields += Modifier.isStatic(f.getModifiers()) ? 0 : 1;
            if (Modifier.isStatic(f.getModifiers()) && !Modifier.isFinal(f.getModifiers())) {
                bad("static and not final: " + f);
            }
        }
        if (fields > 20) {
            bad("fields of " + c + ": " + fields);
        }
        for (Method m : c.getDeclaredMethods()) {
            if (m.getParameterCount() > 7) {
                bad("parameters of " + m);
            }
        }
    }
}
