/** Promises 44 to 46, with term IV: what lies, what is told, the trouble. */
public final class ToldTest {
    private static final Check check = new Check("ToldTest");
    private static final String ROW = "table loses;board a wide 5 high 1;piece p coin;piece q coin second";
    private static final String LARGE = "table wins apart;board a wide 4 high 2;board b wide 3 high 1;jug a 0,0;jug b 2,0;"
            + "piece p coin;piece q block 2,1 first;piece r coin;lay 0";

    public static void main(String[] args) throws Exception {
        check.runAll(ToldTest.class);
    }

    // ---- Promise 44: led

    static void promise44_theFirstLaidFirst() {
        CoinsLaid x = check.on(ROW + ";lay 2;lay 8");
        x.puts(0);
        check.due("led(0)", x.led(0), 2);
        check.due("led(1)", x.led(1), 8);
        check.due("led(2)", x.led(2), 0);
    }

    static void promise44_iTooSmallOrTooLarge() {
        CoinsLaid x = check.on(ROW + ";lay 2;lay 8");
        check.due("led(2) throws", Check.ledThrows(x, 2), true);
        check.due("led(-1) throws", Check.ledThrows(x, -1), true);
        check.due("led(MAX) throws", Check.ledThrows(x, Integer.MAX_VALUE), true);
        check.due("led(MIN) throws", Check.ledThrows(x, Integer.MIN_VALUE), true);
        check.due("led(1) does not", Check.ledThrows(x, 1), false);
    }

    static void promise44_noneLies() {
        CoinsLaid x = check.on(ROW);
        check.due("led(0) throws", Check.ledThrows(x, 0), true);
        CoinsLaid none = new CoinsLaid();
        check.due("led(0) without a table throws", Check.ledThrows(none, 0), true);
    }

    static void promise44_whatWasTakenUpOrUndoneLiesNoMore() {
        CoinsLaid x = check.on(ROW + ";lay 2;lay 8");
        x.takes();
        check.due("led(1) throws behind takes()", Check.ledThrows(x, 1), true);
        x.puts(0);
        x.undo();
        check.due("led(1) throws behind undo()", Check.ledThrows(x, 1), true);
        x.image();
        x.puts(0);
        x.back(0);
        check.due("led(1) throws behind back()", Check.ledThrows(x, 1), true);
        check.due("led(0)", x.led(0), 2);
        Check.tell(x, ROW);
        check.due("led(0) throws behind table()", Check.ledThrows(x, 0), true);
    }

    static void promise44_fourteenLie() {
        CoinsLaid x = check.on("table loses;board a wide 7 high 2;piece p coin");
        for (int i = 0; i < 14; i++) {
            x.puts((i * 5 + 3) % 14);
        }
        for (int i = 0; i < 14; i++) {
            check.due("led(" + i + ")", x.led(i), (i * 5 + 3) % 14);
        }
        check.due("led(14) throws", Check.ledThrows(x, 14), true);
    }

    // ---- Promise 45: told

    private static void told(CoinsLaid x, int... due) {
        for (int what = 0; what < due.length; what++) {
            check.due("told(" + what + ")", x.told(what), due[what]);
        }
    }

    static void promise45_twelveThings() {
        CoinsLaid x = check.on(LARGE);
        told(x, 2, 3, 11, 2, 1, 1, 1, 1, 0, 0, 0, 0);
        x.seed(11);
        x.image();
        x.image();
        x.puts(x.layAt(0));
        Check.feed(x, "x");
        told(x, 2, 3, 11, 2, 1, 1, 2, 0, 11, 1, 2, 20);
    }

    static void promise45_zeroForWhatThereIsNot() {
        CoinsLaid x = new CoinsLaid();
        told(x, 0, 0, 0, 0, 0, 0, 0, 0, 0, 0, 0, 0);
        Check.feed(x, "table");
        told(x, 0, 0, 0, 0, 0, 0, 0, 0, 0, 0, 0, 20);
    }

    static void promise45_noneForOthers() {
        CoinsLaid x = check.on(LARGE);
        int[] others = {-1, 12, 13, 100, Integer.MIN_VALUE, Integer.MAX_VALUE};
        for (int other : others) {
            check.due("told(" + other + ")", x.told(other), -1);
            check.due("told(" + other + ") of a new object", new CoinsLaid().told(other), -1);
        }
    }

    static void promise45_theLeast() {
        CoinsLaid x = check.on("table loses;board a wide 1 high 1;piece p coin");
        told(x, 1, 1, 1, 0, 0, 0, 0, 0, 0, 0, 0, 0);
    }

    static void promise45_theMost() {
        CoinsLaid x = check.on("table wins apart;board a wide 4 high 2;board b wide 5 high 1;board c wide 1 high 1;"
                + "piece p coin;piece q coin;piece r coin;piece s coin");
        told(x, 3, 4, 14, 0, 1, 1, 0);
    }

    static void promise45_theLawAndApartByThemselves() {
        told(check.on("table wins;board a wide 1 high 1;piece p coin"), 1, 1, 1, 0, 1, 0);
        told(check.on("table loses apart;board a wide 1 high 1;piece p coin"), 1, 1, 1, 0, 0, 1);
    }

    static void promise45_whoIsNextByTurns() {
        CoinsLaid x = check.on(ROW);
        check.due("first at first", x.told(7), 0);
        x.puts(0);
        check.due("then second", x.told(7), 1);
        x.puts(1);
        check.due("then first", x.told(7), 0);
        x.takes();
        check.due("second, with one taken up", x.told(7), 1);
        x.undo();
        check.due("first, with that undone", x.told(7), 0);
        check.due("second, with one told", check.on(ROW + ";lay 0").told(7), 1);
    }

    // ---- Promise 46: trouble

    static void promise46_noneAtFirst() {
        check.due("trouble()", new CoinsLaid().trouble(), 0);
    }

    static void promise46_eachNumber() {
        CoinsLaid x = check.on("table loses;board a wide 3 high 1;piece p coin");
        x.may(3);
        check.due("1: there is none such", x.trouble(), 1);
        x.seed(-1);
        check.due("2: a number", x.trouble(), 2);
        x.image();
        x.image();
        x.image();
        check.due("0: it wasn't", x.trouble(), 0);
        x.image();
        check.due("3: no room", x.trouble(), 3);
        x.table(0);
        check.due("4: a FAULT", x.trouble(), 4);
        x.puts(0);
        x.puts(0);
        check.due("5: not so", x.trouble(), 5);
        x.undo();
        x.undo();
        check.due("6: there is none", x.trouble(), 6);
        x.over();
        check.due("0 again", x.trouble(), 0);
    }

    static void promise46_callsOfWhichNoNumberIsToldLeaveIt() {
        CoinsLaid x = check.on(ROW + ";lay 0");
        x.may(99);
        for (int i = 0; i < 46; i++) {
            x.feed(1, 2, 3, 4, 5);
        }
        check.due("trouble() behind feed(), also one that brings none", x.trouble(), 1);
        x.fault();
        x.where();
        x.trouble();
        check.due("trouble() behind fault(), where()", x.trouble(), 1);
        x.led(0);
        Check.ledThrows(x, 5);
        check.due("trouble() behind led(), also one that throws", x.trouble(), 1);
        x.told(0);
        x.told(99);
        check.due("trouble() behind told(), also of others", x.trouble(), 1);
    }

    /** Each call that may be refused, here all of them are not. */
    static void promise46_zeroBehindEachCallThatIsNotRefused() {
        CoinsLaid x = check.on("table loses;board a wide 5 high 1;piece p coin");
        Check.feed(x, "table loses;board a wide 5 high 1;piece p coin");
        String[] names = {"table", "lay", "layOf", "layOf -2", "may", "lays", "layAt", "across", "taken", "dead", "over",
            "has", "best", "good", "soonest", "ways", "heap", "heap of a board", "byAcross", "half", "spoils", "open", "elbow", "fewest",
            "most", "lot", "size", "rows", "rowLay", "rowLay -2", "round", "round start", "round -2", "would", "match",
            "matchLong", "beats", "puts", "takes", "plays", "seed", "undo", "image", "back"};
        for (int i = 0; i < names.length; i++) {
            x.may(-1);
            check.due("trouble() ahead of " + names[i], x.trouble(), 1);
            asked(x, i);
            check.due("trouble() behind " + names[i], x.trouble(), 0);
        }
    }

    private static void asked(CoinsLaid x, int i) {
        switch (i) {
            case 0 -> x.table(46);
            case 1 -> x.lay(0, 0);
            case 2 -> x.layOf(0, 0, 0, 0, 0);
            case 3 -> x.layOf(0, 0, 9, 0, 0);
            case 4 -> x.may(0);
            case 5 -> x.lays();
            case 6 -> x.layAt(0);
            case 7 -> x.across(0);
            case 8 -> x.taken();
            case 9 -> x.dead();
            case 10 -> x.over();
            case 11 -> x.has();
            case 12 -> x.best();
            case 13 -> x.good();
            case 14 -> x.soonest();
            case 15 -> x.ways();
            case 16 -> x.heap(-1);
            case 17 -> x.heap(0);
            case 18 -> x.byAcross();
            case 19 -> x.half(0);
            case 20 -> x.spoils(0);
            case 21 -> x.open(0);
            case 22 -> x.elbow();
            case 23 -> x.fewest();
            case 24 -> x.most();
            case 25 -> x.lot();
            case 26 -> x.size(0, 1);
            case 27 -> x.rows(0, 0, 0, 1);
            case 28 -> x.rowLay(1, 1, 0);
            case 29 -> x.rowLay(0, 1, 0);
            case 30 -> x.round(1, false);
            case 31 -> x.round(1, true);
            case 32 -> x.round(3, true);
            case 33 -> x.would(0);
            case 34 -> x.match(0, 0);
            case 35 -> x.matchLong(0, 0);
            case 36 -> x.beats(0);
            case 37 -> x.puts(0);
            case 38 -> x.takes();
            case 39 -> x.plays(0);
            case 40 -> x.seed(0);
            case 41 -> x.undo();
            case 42 -> x.image();
            default -> x.back(0);
        }
    }
}
