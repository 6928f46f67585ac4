import java.io.File;
import java.lang.reflect.Field;
import java.lang.reflect.InvocationTargetException;
import java.lang.reflect.Method;
import java.lang.reflect.Modifier;
import java.net.URL;
import java.net.URLClassLoader;
import java.nio.file.Files;
import java.nio.file.Path;
import java.util.regex.Matcher;
import java.util.regex.Pattern;
import java.util.stream.Stream;
import javax.tools.ToolProvider;

/** README.md: each example answers what stands behind it, and every call and constant of the face is named. */
public final class ReadmeTest {
    private static final Pattern EXAMPLE = Pattern.compile("(?s)```java\n(.*?)```");
    private static final Pattern ANSWERED = Pattern.compile("^\\s*(x\\..*\\));\\s*// (-?\\d+)\\b.*$");
    private static int wrong = 0;
    private static int asked = 0;

    /** The examples call this. */
    public static void due(String call, long got, long want) {
        asked++;
        if (got != want) {
            fault(call + " answered " + got + ", README.md says " + want);
        }
    }

    private static void fault(String text) {
        wrong++;
        System.out.println(text);
    }

    public static void main(String[] args) throws Exception {
        String readme = Files.readString(Path.of(args.length > 0 ? args[0] : ".").resolve("README.md"));
        lookAtNames(readme);
        Path folder = Files.createTempDirectory("readme");
        try {
            runExamples(readme, folder);
        } finally {
            clear(folder);
        }
        System.out.println(asked + " answers of README.md asked, " + wrong + " wrong");
        if (wrong != 0 || asked == 0) {
            System.exit(1);
        }
    }

    private static void lookAtNames(String readme) {
        for (Method method : OnOneBreath.class.getDeclaredMethods()) {
            if (Modifier.isPublic(method.getModifiers()) && !readme.contains("`" + method.getName() + "`")) {
                fault("README.md does not name " + method.getName());
            }
        }
        for (Field field : OnOneBreath.class.getFields()) {
            if (!readme.contains("`" + field.getName() + "`")) {
                fault("README.md does not name " + field.getName());
            }
        }
    }

    private static void runExamples(String readme, Path folder) throws Exception {
        Path file = folder.resolve("Examples.java");
        Files.writeString(file, program(readme));
        String path = System.getProperty("java.class.path");
        int compiled = ToolProvider.getSystemJavaCompiler().run(null, null, null, "-proc:none", "-cp", path, "-d", folder.toString(),
                file.toString());
        if (compiled != 0) {
            fault("the examples of README.md do not compile");
            return;
        }
        try (URLClassLoader loader = new URLClassLoader(new URL[] {folder.toUri().toURL()}, ReadmeTest.class.getClassLoader())) {
            loader.loadClass("Examples").getMethod("run").invoke(null);
        } catch (InvocationTargetException e) {
            fault("an example of README.md threw " + e.getCause());
        }
    }

    /** Each example in a block of its own; a line that tells its answer becomes a question. */
    private static String program(String readme) {
        StringBuilder text = new StringBuilder("public final class Examples { public static void run() {\n");
        Matcher examples = EXAMPLE.matcher(readme);
        while (examples.find()) {
            text.append("{\n");
            for (String line : examples.group(1).split("\n")) {
                Matcher answered = ANSWERED.matcher(line);
                if (answered.matches()) {
                    String call = answered.group(1);
                    line = "ReadmeTest.due(\"" + call + "\", " + call + ", " + answered.group(2) + "L);";
                }
                text.append(line).append('\n');
            }
            text.append("}\n");
        }
        return text.append("} }\n").toString();
    }

    private static void clear(Path folder) throws Exception {
        try (Stream<Path> files = Files.list(folder)) {
            files.map(Path::toFile).forEach(File::delete);
        }
        Files.delete(folder);
    }
}
