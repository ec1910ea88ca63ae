import java.lang.reflect.Method;
import java.nio.file.Files;
import java.nio.file.Path;
import java.util.Map;
import java.util.TreeMap;
import java.util.regex.Matcher;
import java.util.regex.Pattern;

/** That each promise of the document has tests named after it, and no test is named after none. */
public final class EachPromiseTest {
    private static final Check check = new Check("EachPromiseTest");
    private static final Class<?>[] TESTS = {TableTest.class, LaysTest.class, WhoHasItTest.class, FullestTest.class,
        RowsTest.class, PlayersTest.class, ActsTest.class, ToldTest.class};

    public static void main(String[] args) throws Exception {
        Map<String, Integer> tests = testsOfEach();
        Matcher promise = Pattern.compile("^## Promise (\\d+):", Pattern.MULTILINE)
                .matcher(Files.readString(Path.of("../shared/DOC.md")));
        int promises = 0;
        while (promise.find()) {
            promises++;
            String name = "promise" + (promise.group(1).length() < 2 ? "0" : "") + promise.group(1);
            check.due("whether some test is named " + name, tests.containsKey(name), true);
        }
        check.due("promises of the document", promises, 46);
        check.due("promises of the tests", tests.size(), promises);
        check.end();
    }

    private static Map<String, Integer> testsOfEach() {
        Map<String, Integer> tests = new TreeMap<>();
        for (Class<?> some : TESTS) {
            for (Method method : some.getDeclaredMethods()) {
                if (method.getName().startsWith("promise")) {
                    check.due("form of " + method.getName(), method.getName().matches("promise\\d\\d_[a-z]\\w+"), true);
                    tests.merge(method.getName().substring(0, 9), 1, Integer::sum);
                }
            }
        }
        return tests;
    }
}
