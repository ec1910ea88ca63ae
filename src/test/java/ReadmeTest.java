import java.lang.reflect.InvocationTargetException;
import java.lang.reflect.Method;
import java.lang.reflect.Modifier;
import java.net.URL;
import java.net.URLClassLoader;
import java.nio.file.Files;
import java.nio.file.Path;
import java.util.Comparator;
import java.util.List;
import java.util.regex.Matcher;
import java.util.regex.Pattern;
import java.util.stream.Stream;
import javax.tools.ToolProvider;

/** That README.md's example answers what its comments say, and that it tells of each call of the face. */
public final class ReadmeTest {
    private static final Check check = new Check("ReadmeTest");
    /** A call that stands alone in its line, with its answer behind it: "x.has(); // 0: ..". */
    private static final Pattern ANSWERED =
            Pattern.compile("(?m)^( *)((?:x\\.|tell\\().*\\)); *// (-?\\d+|true|false):.*$");
    private static final String DUE = "    static void due(String call, Object got, String want) {\n"
            + "        if (!String.valueOf(got).equals(want)) {\n"
            + "            throw new IllegalStateException(call + \" answered \" + got + \", README.md says \" + want);\n"
            + "        }\n"
            + "    }\n";

    public static void main(String[] args) throws Exception {
        String readme = Files.readString(Path.of("README.md"));
        exampleAnswersWhatItSays(readme);
        eachCallIsTold(readme);
        eachTestIsTold(readme);
        check.end();
    }

    private static void exampleAnswersWhatItSays(String readme) throws Exception {
        Matcher block = Pattern.compile("(?s)```java\n(.*?)```").matcher(readme);
        check.due("whether there is an example", block.find(), true);
        Matcher answered = ANSWERED.matcher(block.group(1));
        check.due("answers of the example, more than ten", answered.results().count() > 10, true);
        String asking = answered.reset().replaceAll(m -> Matcher.quoteReplacement(m.group(1) + "due(\""
                + m.group(2).replace("\"", "\\\"") + "\", " + m.group(2) + ", \"" + m.group(3) + "\");"));
        asking = asking.substring(0, asking.lastIndexOf('}')) + DUE + "}\n";
        Path room = Files.createTempDirectory("readme");
        try {
            Path source = Files.writeString(room.resolve("Yours.java"), asking);
            int code = ToolProvider.getSystemJavaCompiler().run(null, null, null, "-proc:none",
                    "-cp", System.getProperty("java.class.path"), "-d", room.toString(), source.toString());
            check.due("compiling the example", code, 0);
            run(room);
        } finally {
            remove(room);
        }
    }

    private static void run(Path room) throws Exception {
        try (URLClassLoader loader = new URLClassLoader(new URL[] {room.toUri().toURL()})) {
            loader.loadClass("Yours").getMethod("main", String[].class).invoke(null, (Object) new String[0]);
        } catch (InvocationTargetException e) {
            check.due("the example: " + e.getCause().getMessage(), true, false);
        }
    }

    private static void remove(Path room) throws Exception {
        try (Stream<Path> all = Files.walk(room)) {
            for (Path one : all.sorted(Comparator.reverseOrder()).toList()) {
                Files.delete(one);
            }
        }
    }

    private static void eachCallIsTold(String readme) {
        for (Method method : CoinsLaid.class.getDeclaredMethods()) {
            if (Modifier.isPublic(method.getModifiers())) {
                String name = method.getName();
                check.due("whether README.md tells of " + name,
                        readme.contains("`" + name + "`") || readme.contains("`" + name + "()`"), true);
            }
        }
    }

    private static void eachTestIsTold(String readme) throws Exception {
        try (Stream<Path> tests = Files.list(Path.of("src/test/java"))) {
            List<Path> named = tests.filter(p -> p.toString().endsWith("Test.java")).toList();
            for (Path test : named) {
                String name = test.getFileName().toString().replace(".java", "");
                check.due("whether README.md tells of " + name, readme.contains("| " + name + " |"), true);
            }
        }
    }
}
