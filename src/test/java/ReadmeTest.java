import java.lang.reflect.Method;
import java.lang.reflect.Modifier;
import java.net.URL;
import java.net.URLClassLoader;
import java.nio.file.Files;
import java.nio.file.Path;
import java.util.List;
import java.util.regex.Matcher;
import java.util.regex.Pattern;
import javax.tools.JavaCompiler;
import javax.tools.ToolProvider;

/**
 * The run that README.md shows, compiled as it stands there: each call must answer what is told behind it. And its
 * tables name every call.
 */
public final class ReadmeTest {
    private static final Pattern BLOCK = Pattern.compile("(?s)```java\n(.*?)```");
    /** A call of one or more lines, and what it answers. */
    private static final Pattern CALL =
        Pattern.compile("(?m)^((?:x\\.|readText)(?:[^;\"]|\"[^\"\n]+\"|(?s:\"\"\".*?\"\"\"))*?);[ ]*// (-?[0-9]+|true|false)(?=:|$).*$");
    private static final String DUE = "    static int calls = 0;\n    static int wrong = 0;\n"
        + "    static void due(int which, Object got, Object want) {\n        calls++;\n        if (!got.equals(want)) {\n"
        + "            wrong++;\n            System.out.println(\"call \" + which + \" of README.md answered \" + got"
        + " + \", told is \" + want);\n        }\n    }\n";

    private ReadmeTest() { }

    private static void fail(String why) {
        System.out.println(why);
        System.exit(1);
    }

    /** The blocks as one class: the first is a method that the second, a row of calls, uses. */
    private static String program(String readme) {
        Matcher blocks = BLOCK.matcher(readme);
        String method = blocks.find() ? blocks.group(1) : "";
        String run = blocks.find() ? blocks.group(1) : "";
        if (blocks.find() || run.isEmpty()) {
            fail("README.md should have two blocks of Java");
        }
        Matcher calls = CALL.matcher(run);
        StringBuilder due = new StringBuilder();
        int many = 0;
        while (calls.find()) {
            many++;
            String told = "due(" + many + ", " + calls.group(1) + ", " + calls.group(2) + ");";
            calls.appendReplacement(due, Matcher.quoteReplacement(told));
        }
        calls.appendTail(due);
        if (Pattern.compile("(?m)^(x\\.|readText)").matcher(due).find() || many < 30) {
            fail("not every call in README.md tells what it answers:\n" + due);
        }
        return "public final class Readme {\n" + DUE + method
            + "public static void main(String[] args) {\n" + due + "if (wrong != 0) System.exit(1);\n"
            + "System.out.println(calls + \" calls answer what README.md tells\");\n}\n}\n";
    }

    private static void tables(String readme) {
        for (Method m : RainLoom.class.getDeclaredMethods()) {
            if (Modifier.isPublic(m.getModifiers()) && !rowOf(m).matcher(readme).find()) {
                fail("README.md does not say what " + m.getName() + " is");
            }
        }
    }

    /** A row of a table that begins with the call, with as many arguments as it takes. */
    private static Pattern rowOf(Method m) {
        int many = m.getParameterCount();
        String arguments = many == 0 ? "" : "\\w+(, \\w+){" + (many - 1) + "}";
        return Pattern.compile("(?m)^\\| `" + m.getName() + "\\(" + arguments + "\\)` \\| ");
    }

    public static void main(String[] args) throws Exception {
        JavaCompiler compiler = ToolProvider.getSystemJavaCompiler();
        if (compiler == null) {
            fail("there is no compiler");
            return;
        }
        String readme = Files.readString(Path.of("README.md"));
        tables(readme);
        String program = program(readme);
        Path place = Files.createTempDirectory("readme");
        Path source = place.resolve("Readme.java");
        // What is told first is deleted last.
        for (Path made : List.of(place, source, place.resolve("Readme.class"))) {
            made.toFile().deleteOnExit();
        }
        Files.writeString(source, program);
        String path = System.getProperty("java.class.path");
        if (compiler.run(null, null, null, "-cp", path, "-d", place.toString(), source.toString()) != 0) {
            fail("what README.md shows does not compile");
        }
        try (URLClassLoader loader = new URLClassLoader(new URL[] {place.toUri().toURL()})) {
            loader.loadClass("Readme").getMethod("main", String[].class).invoke(null, (Object) new String[0]);
        }
    }
}
