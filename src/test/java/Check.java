import java.lang.reflect.InvocationTargetException;
import java.lang.reflect.Method;
import java.util.Arrays;
import java.util.Comparator;

/** Counts the answers that are not as due, and ends the test with exit code 1 if there was one. */
final class Check {
    private static final int[] EXTREMES = {Integer.MIN_VALUE, Integer.MAX_VALUE};

    private final String name;
    private String within = "";
    private int asked;
    private int wrong;

    Check(String name) {
        this.name = name;
    }

    /**
     * Runs each test of a class by itself: its methods that are named after a promise, "promise07_..".
     * One that fails is told by its name.
     */
    void runAll(Class<?> tests) throws IllegalAccessException {
        Method[] methods = tests.getDeclaredMethods();
        Arrays.sort(methods, Comparator.comparing(Method::getName));
        for (Method method : methods) {
            if (method.getName().startsWith("promise")) {
                within = "." + method.getName();
                run(method);
            }
        }
        within = "";
        end();
    }

    private void run(Method method) throws IllegalAccessException {
        int before = asked;
        try {
            method.invoke(null);
        } catch (InvocationTargetException e) {
            due("thrown " + e.getCause(), true, false);
        }
        due("whether it asks something", asked > before, true);
    }

    void due(String call, long got, long want) {
        asked++;
        if (got != want) {
            wrong++;
            System.out.println(name + within + ": " + call + " answered " + got + ", due is " + want);
        }
    }

    void due(String call, boolean got, boolean want) {
        due(call, got ? 1 : 0, want ? 1 : 0);
    }

    /** A call that answers NONE, with its trouble. */
    void refused(String call, CoinsLaid x, long got, int trouble) {
        due(call, got, -1);
        due("trouble() behind " + call, x.trouble(), trouble);
    }

    void refused(String call, CoinsLaid x, boolean got, int trouble) {
        due(call, got, false);
        due("trouble() behind " + call, x.trouble(), trouble);
    }

    /** A call that is not refused. */
    void fine(String call, CoinsLaid x, long got, long want) {
        due(call, got, want);
        due("trouble() behind " + call, x.trouble(), 0);
    }

    void fine(String call, CoinsLaid x, boolean got) {
        due(call, got, true);
        due("trouble() behind " + call, x.trouble(), 0);
    }

    interface Call {
        long of(int argument);
    }

    /** A call with one argument, which is refused for the numbers below and above those it may be, however far. */
    void refusedOutside(String call, CoinsLaid x, int least, int most, int trouble, Call asked) {
        refused(call + " of " + (least - 1), x, asked.of(least - 1), trouble);
        refused(call + " of " + (most + 1), x, asked.of(most + 1), trouble);
        for (int far : EXTREMES) {
            refused(call + " of " + far, x, asked.of(far), trouble);
        }
    }

    /** A text with a fault: ^ stands ahead of the place where it is. */
    void fault(int number, String marked) {
        int place = marked.indexOf('^');
        String text = marked.replace("^", "");
        CoinsLaid x = new CoinsLaid();
        refused("table of '" + text + "'", x, tell(x, text), 4);
        due("fault() of '" + text + "'", x.fault(), number);
        due("where() of '" + text + "'", x.where(), place);
        due("told(11) behind '" + text + "'", x.told(11), 0);
        due("told(0) behind '" + text + "'", x.told(0), 0);
    }

    /** A text without a fault. */
    void good(String text, int lays) {
        CoinsLaid x = new CoinsLaid();
        fine("table of '" + text + "'", x, tell(x, text), lays);
        due("fault() of '" + text + "'", x.fault(), 0);
        due("where() of '" + text + "'", x.where(), -1);
    }

    /** A new object with this table, which must be without a fault. */
    CoinsLaid on(String text) {
        CoinsLaid x = new CoinsLaid();
        due("whether '" + text + "' is a table", tell(x, text) >= 0, true);
        return x;
    }

    static int tell(CoinsLaid x, String text) {
        feed(x, text);
        return x.table(text.length());
    }

    static int feed(CoinsLaid x, String text) {
        int has = x.told(11);
        for (int at = 0; at < text.length(); at += 20) {
            int[] five = new int[5];
            for (int i = 0; i < 20; i++) {
                int sign = at + i < text.length() ? text.charAt(at + i) : ' ';
                five[i / 4] = five[i / 4] << 8 | sign;
            }
            has = x.feed(five[0], five[1], five[2], five[3], five[4]);
        }
        return has;
    }

    static boolean ledThrows(CoinsLaid x, int i) {
        try {
            x.led(i);
            return false;
        } catch (java.util.NoSuchElementException e) {
            return true;
        }
    }

    void end() {
        System.out.println(name + ": " + asked + " answers, " + wrong + " wrong");
        if (wrong != 0) {
            System.exit(1);
        }
    }
}
