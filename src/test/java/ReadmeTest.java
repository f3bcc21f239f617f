import java.lang.reflect.Method;
import java.lang.reflect.Modifier;
import java.net.URL;
import java.net.URLClassLoader;
import java.nio.file.Files;
import java.nio.file.Path;
import java.util.ArrayList;
import java.util.List;
import java.util.regex.Matcher;
import java.util.regex.Pattern;
import javax.tools.ToolProvider;

/**
 * The example in README.md compiles, and each call in it answers what its comment
 * says. It is compiled just as it stands there, with a check put behind each line.
 * Takes the path of the class's source as its argument.
 */
public final class ReadmeTest {
    private static final Pattern LINE = Pattern.compile("(?:int (\\w+) = )?(.*); *// answers ([^:]+)(: .*)?");

    private static int wrong = 0;
    private static int checked = 0;

    public static void main(String[] args) throws Exception {
        Path root = Path.of(args[0]).toAbsolutePath().getParent().getParent().getParent().getParent();
        run(checkedLines(example(Files.readString(root.resolve("README.md")))));
        namesEveryMethod(Files.readString(root.resolve("README.md")));
        if (checked == 0) {
            wrong++;
            System.out.println("the example checks nothing");
        }
        System.out.println(wrong == 0 ? "all " + checked + " answers in README.md are as due"
                : wrong + " things in README.md are not as due");
        if (wrong != 0) {
            System.exit(1);
        }
    }

    public static void due(String call, long got, long want) {
        checked++;
        if (got != want) {
            wrong++;
            System.out.println(call + " answered " + got + ", README.md says " + want);
        }
    }

    private static List<String> example(String readme) {
        int start = readme.indexOf("```java\n") + 8;
        return readme.substring(start, readme.indexOf("```", start)).lines().toList();
    }

    private static List<String> checkedLines(List<String> example) {
        List<String> lines = new ArrayList<>();
        for (String line : example) {
            Matcher parts = LINE.matcher(line);
            if (!parts.matches()) {
                lines.add(line);
                continue;
            }
            String got = parts.group(2);
            if (parts.group(1) != null) {
                lines.add(line);
                got = parts.group(1);
            }
            lines.add("ReadmeTest.due(\"" + parts.group(2) + "\", " + got + ", " + parts.group(3) + ");");
        }
        return lines;
    }

    private static void run(List<String> lines) throws Exception {
        Path folder = Files.createTempDirectory("readme");
        Path source = folder.resolve("Example.java");
        Path built = folder.resolve("Example.class");
        Files.writeString(source, "public final class Example { public static void run() {\n"
                + String.join("\n", lines) + "\n} }\n");
        int refused = ToolProvider.getSystemJavaCompiler().run(null, null, null, "-cp",
                System.getProperty("java.class.path"), "-d", folder.toString(), source.toString());
        if (refused != 0) {
            wrong++;
        } else {
            try (URLClassLoader loader = new URLClassLoader(new URL[] {folder.toUri().toURL()})) {
                loader.loadClass("Example").getMethod("run").invoke(null);
            }
        }
        Files.deleteIfExists(built);
        Files.deleteIfExists(source);
        Files.deleteIfExists(folder);
    }

    private static void namesEveryMethod(String readme) {
        for (Method method : GuardedCommands.class.getDeclaredMethods()) {
            boolean open = Modifier.isPublic(method.getModifiers());
            if (open && !readme.contains("`" + method.getName() + "(")) {
                wrong++;
                System.out.println("README.md does not tell " + method.getName());
            }
        }
    }
}
