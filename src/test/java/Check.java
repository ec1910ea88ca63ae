/** Counts the answers that are not as due, and ends the test with exit code 1 if there was one. */
final class Check {
    private final String test;
    private int asked;
    private int wrong;

    Check(String test) {
        this.test = test;
    }

    void due(String call, long got, long want) {
        asked++;
        if (got != want) {
            wrong++;
            System.out.println(test + ": " + call + " answered " + got + ", due is " + want);
        }
    }

    void due(String call, boolean got, boolean want) {
        due(call, got ? 1 : 0, want ? 1 : 0);
    }

    /** A call that answers NONE, with its trouble. */
    void refused(String call, CoinsLaid x, long got, int trouble) {
        due(call, got, -1);
        due("trouble() behind " + call, x.trouble(), trouble);
    }

    void refused(String call, CoinsLaid x, boolean got, int trouble) {
        due(call, got, false);
        due("trouble() behind " + call, x.trouble(), trouble);
    }

    /** A call that is not refused. */
    void fine(String call, CoinsLaid x, long got, long want) {
        due(call, got, want);
        due("trouble() behind " + call, x.trouble(), 0);
    }

    void fine(String call, CoinsLaid x, boolean got) {
        due(call, got, true);
        due("trouble() behind " + call, x.trouble(), 0);
    }

    void fault(String text, int fault, int place) {
        CoinsLaid x = new CoinsLaid();
        refused("table of '" + text + "'", x, tell(x, text), 4);
        due("fault() of '" + text + "'", x.fault(), fault);
        due("where() of '" + text + "'", x.where(), place);
        due("told(11) behind '" + text + "'", x.told(11), 0);
        due("told(0) behind '" + text + "'", x.told(0), 0);
    }

    /** A new object with this table, which must be without a fault. */
    CoinsLaid on(String text) {
        CoinsLaid x = new CoinsLaid();
        due("whether '" + text + "' is a table", tell(x, text) >= 0, true);
        return x;
    }

    static int tell(CoinsLaid x, String text) {
        feed(x, text);
        return x.table(text.length());
    }

    static int feed(CoinsLaid x, String text) {
        int has = x.told(11);
        for (int at = 0; at < text.length(); at += 20) {
            int[] five = new int[5];
            for (int i = 0; i < 20; i++) {
                int sign = at + i < text.length() ? text.charAt(at + i) : ' ';
                five[i / 4] = five[i / 4] << 8 | sign;
            }
            has = x.feed(five[0], five[1], five[2], five[3], five[4]);
        }
        return has;
    }

    static boolean ledThrows(CoinsLaid x, int i) {
        try {
            x.led(i);
            return false;
        } catch (java.util.NoSuchElementException e) {
            return true;
        }
    }

    void end() {
        System.out.println(test + ": " + asked + " answers, " + wrong + " wrong");
        if (wrong != 0) {
            System.exit(1);
        }
    }
}
