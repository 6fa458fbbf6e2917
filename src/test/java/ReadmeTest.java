import java.io.File;
import java.io.IOException;
import java.lang.reflect.Method;
import java.lang.reflect.Modifier;
import java.net.URL;
import java.net.URLClassLoader;
import java.nio.file.Files;
import java.nio.file.Path;
import java.util.regex.Matcher;
import java.util.regex.Pattern;
import javax.tools.JavaCompiler;
import javax.tools.ToolProvider;

/** README.md's examples, compiled as one program: each call answers what stands behind it. */
public final class ReadmeTest {
    private static final Pattern EXAMPLES = Pattern.compile("(?ms)^```java\n(.*?)^```$");
    private static final Pattern ANSWERED = Pattern.compile("(?:int (\\w+) = )?(town\\.(\\w+)\\(.*\\)); +// (-?\\d+)(?::.*)?");
    private static int asked = 0;
    private static int wrong = 0;

    private ReadmeTest() {
    }

    public static void main(String[] args) throws Exception {
        String page = Files.readString(Path.of("README.md"));
        Path folder = Files.createTempDirectory("readme");
        try {
            runExamples(program(page), folder);
        } finally {
            remove(folder.toFile());
        }
        namesAll(page);
        System.out.println("readme: " + asked + " examples asked, " + wrong + " wrong");
        System.exit(wrong == 0 ? 0 : 1);
    }

    private static void fault(String what) {
        wrong++;
        System.out.println("readme: " + what);
    }

    /** Called by the examples. */
    public static void due(String call, long got, long want) {
        asked++;
        if (got != want) {
            fault(call + " answered " + got + ", README.md says " + want);
        }
    }

    private static String program(String page) {
        StringBuilder code = new StringBuilder("public final class Examples {\n    public static void main(String[] args) {\n");
        Matcher examples = EXAMPLES.matcher(page);
        while (examples.find()) {
            for (String line : examples.group(1).split("\n")) {
                code.append(asked(line)).append('\n');
            }
        }
        return code.append("    }\n}\n").toString();
    }

    private static String asked(String line) {
        Matcher call = ANSWERED.matcher(line);
        if (!call.matches()) {
            if (line.contains("//") || line.startsWith("town.")) {
                fault("no answer is told: " + line);
            }
            return line;
        }
        String quoted = "\"" + call.group(2).replace("\"", "'") + "\"";
        if (call.group(1) == null) {
            return "ReadmeTest.due(" + quoted + ", " + call.group(2) + ", " + call.group(4) + "L);";
        }
        return "int " + call.group(1) + " = " + call.group(2) + "; ReadmeTest.due(" + quoted + ", " + call.group(1)
            + ", " + call.group(4) + "L);";
    }

    private static void runExamples(String code, Path folder) throws Exception {
        Path source = folder.resolve("Examples.java");
        Files.writeString(source, code);
        JavaCompiler compiler = ToolProvider.getSystemJavaCompiler();
        String classes = System.getProperty("java.class.path");
        if (compiler == null || compiler.run(null, null, null, "-proc:none", "-cp", classes, "-d", folder.toString(),
            source.toString()) != 0) {
            fault("the examples do not compile");
            return;
        }
        URL[] places = {folder.toUri().toURL()};
        try (URLClassLoader loader = new URLClassLoader(places, ReadmeTest.class.getClassLoader())) {
            loader.loadClass("Examples").getMethod("main", String[].class).invoke(null, (Object) new String[0]);
        }
        if (asked < 40) {
            fault("only " + asked + " examples were asked");
        }
    }

    private static void remove(File folder) throws IOException {
        File[] inside = folder.listFiles();
        for (File file : inside == null ? new File[0] : inside) {
            Files.delete(file.toPath());
        }
        Files.delete(folder.toPath());
    }

    private static void namesAll(String page) {
        for (Class<?> inside : NailedByWord.class.getDeclaredClasses()) {
            names(page, inside.getSimpleName());
        }
        File[] tests = new File("src/test/java").listFiles();
        for (File test : tests == null ? new File[0] : tests) {
            if (test.getName().endsWith("Test.java")) {
                names(page, test.getName().replace(".java", ""));
            }
        }
        for (Method call : NailedByWord.class.getDeclaredMethods()) {
            if (Modifier.isPublic(call.getModifiers())
                && !Pattern.compile("`" + call.getName() + "\\([^`]*\\)`").matcher(page).find()) {
                fault("does not tell of " + call.getName());
            }
        }
        names(page, ".ci/run");
        names(page, "../shared/tests");
    }

    private static void names(String page, String name) {
        if (!page.contains("`" + name + "`") && !page.contains("    " + name + "\n")) {
            fault("does not name " + name);
        }
    }
}
