import java.net.URL;
import java.net.URLClassLoader;
import java.nio.file.Files;
import java.nio.file.Path;
import java.util.List;
import java.util.regex.Matcher;
import java.util.regex.Pattern;
import javax.tools.ToolProvider;

/** README.md shows a helper and an example: they compile as they stand there, and each call answers what is told behind it. */
public final class ReadmeTests {
    private static final Pattern ANSWERED = Pattern.compile("house\\.(\\w+)\\((.*)\\); *// (-?\\d+|true|false)\\b.*");

    public static void main(String[] args) throws Exception {
        String readme = Files.readString(Path.of("README.md"));
        Path folder = Files.createTempDirectory("readme");
        Path source = folder.resolve("ReadmeExample.java");
        try {
            Files.writeString(source, program(readme));
            String classes = System.getProperty("java.class.path");
            int failed = ToolProvider.getSystemJavaCompiler().run(null, null, null, "-cp", classes, "-d", folder.toString(), source.toString());
            if (failed != 0) {
                System.out.println("the example of README.md does not compile");
                System.exit(1);
            }
            if (!run(folder) || !namesEachCall(readme)) {
                System.exit(1);
            }
        } finally {
            for (String name : List.of("ReadmeExample.class", "ReadmeExample.java", "")) {
                Files.deleteIfExists(folder.resolve(name));
            }
        }
    }

    private static String program(String readme) {
        StringBuilder helpers = new StringBuilder();
        StringBuilder steps = new StringBuilder();
        Matcher block = Pattern.compile("```java\n(.*?)```", Pattern.DOTALL).matcher(readme);
        while (block.find()) {
            boolean helper = block.group(1).startsWith("static ");
            (helper ? helpers : steps).append(helper ? block.group(1) : asked(block.group(1)));
        }
        return "public final class ReadmeExample {\n" + helpers + "static int asked = 0;\nstatic int wrong = 0;\n"
                + "static void due(String call, Object got, String want) {\nasked++;\nif (!String.valueOf(got).equals(want)) {\nwrong++;\n"
                + "System.out.println(\"README.md: \" + call + \" answers \" + got + \", not \" + want);\n}\n}\n"
                + "public static int[] run() {\n" + steps + "return new int[] {asked, wrong};\n}\n}\n";
    }

    private static String asked(String block) {
        StringBuilder steps = new StringBuilder();
        for (String line : block.split("\n")) {
            Matcher call = ANSWERED.matcher(line);
            if (call.matches()) {
                String what = "house." + call.group(1) + "(" + call.group(2) + ")";
                steps.append("due(\"").append(what).append("\", ").append(what).append(", \"").append(call.group(3)).append("\");\n");
            } else {
                steps.append(line).append('\n');
            }
        }
        return steps.toString();
    }

    private static boolean run(Path folder) throws Exception {
        try (URLClassLoader loader = new URLClassLoader(new URL[] {folder.toUri().toURL()}, ReadmeTests.class.getClassLoader())) {
            int[] sums = (int[]) loader.loadClass("ReadmeExample").getMethod("run").invoke(null);
            System.out.println(sums[0] + " answers of README.md asked, " + sums[1] + " wrong");
            return sums[0] > 0 && sums[1] == 0;
        }
    }

    private static boolean namesEachCall(String readme) {
        boolean all = true;
        for (java.lang.reflect.Method m : SetsStayTogether.class.getDeclaredMethods()) {
            if (java.lang.reflect.Modifier.isPublic(m.getModifiers()) && !readme.contains("`" + m.getName() + "`")) {
                System.out.println("README.md does not name " + m.getName());
                all = false;
            }
        }
        return all;
    }
}
