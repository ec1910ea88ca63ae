/** Promises 1 to 5, 45 and 46: a new object, the tape, tables and their faults, what is told. */
public final class TextTest {
    private static final Check check = new Check("TextTest");
    private static final String SMALL = "table loses;board a wide 3 high 1;piece p coin";

    public static void main(String[] args) {
        aNewObject();
        feeding();
        goodTexts();
        tables();
        faultAndWhere();
        faultsOfForm();
        faultsOfNames();
        faultsOfBounds();
        faultsOfManyAndLacks();
        faultsOfLays();
        told();
        trouble();
        check.end();
    }

    private static void aNewObject() {
        CoinsLaid x = new CoinsLaid();
        for (int what = 0; what <= 11; what++) {
            check.due("new told(" + what + ")", x.told(what), 0);
        }
        check.due("new trouble()", x.trouble(), 0);
        check.due("new fault()", x.fault(), 0);
        check.due("new where()", x.where(), -1);
        check.due("new led(0) throws", Check.ledThrows(x, 0), true);
        check.refused("new lays()", x, x.lays(), 1);
        check.refused("new undo()", x, x.undo(), 6);
        check.due("NONE", CoinsLaid.NONE, -1);
    }

    private static void feeding() {
        CoinsLaid x = new CoinsLaid();
        x.has();
        for (int i = 1; i <= 45; i++) {
            check.due("feed " + i, x.feed(0, -1, 5, 6, 7), 20 * i);
        }
        check.due("feed 46", x.feed(1, 2, 3, 4, 5), -1);
        check.due("told(11) of a full tape", x.told(11), 900);
        check.due("trouble() is not of feed", x.trouble(), 1);
        check.refused("table(901)", x, x.table(901), 2);
        check.refused("table(900)", x, x.table(900), 4);
        check.due("told(11) behind a fault", x.told(11), 0);
        check.due("feed behind it", x.feed(1, 2, 3, 4, 5), 20);
        // the highest byte first: "table lo" of two numbers
        x.table(20);
        x.feed(0x7461626c, 0x65206c6f, 0x7365733b, 0x7461626c, 0x65202020);
        check.refused("table(18)", x, x.table(18), 4);
        check.due("fault()", x.fault(), 3);
        check.due("where()", x.where(), 12);
    }

    private static void goodTexts() {
        good(SMALL, 3);
        good("  table  wins apart ;board a wide 1high 1;piece p block 4 , 4 turns second  ", 0);
        good("piece p coin;board a wide 2 high 2;jug a 1,1;table loses", 3);
        good("board wide wide 002 high 1;piece high coin turns first;table wins;jug wide 0,0", 1);
        good("table loses;board a wide 1 high 1;board aa wide 2 high 1;board z wide 1 high 1;jug aa 1,0;"
                + "piece azzz coin;piece azz coin", 6);
        good("table loses;board coin wide 7 high 2;piece first coin;piece turns corner 3,3;"
                + "piece block block 1,1 turns;piece wins corner 2,2 turns", 14 + 14 + 24);
        good("table loses;board a wide 4 high 3;board b wide 2 high 1;piece p corner 2,3 turns", 3 + 4 + 3 + 4);
        good("table loses;board abcdefgh wide 8 high 1;piece p coin;lay 0;lay 1;lay 2;lay 3;lay 4;lay 5;"
                + "lay 6;lay 7", 8);
        good("table loses;board a wide 1 high 1;board b wide 1 high 1;board c wide 1 high 1;jug a 0,0;"
                + "jug b 0,0;jug c 0,0;piece p coin", 0);
    }

    private static void good(String text, int lays) {
        CoinsLaid x = new CoinsLaid();
        check.fine("table of '" + text + "'", x, Check.tell(x, text), lays);
        check.due("fault() of it", x.fault(), 0);
        check.due("where() of it", x.where(), -1);
        check.due("tape behind it", x.told(11), 0);
    }

    private static void tables() {
        CoinsLaid x = check.on(SMALL + ";lay 1");
        x.puts(0);
        x.image();
        x.seed(9);
        Check.feed(x, "table oops");
        check.refused("table(-1)", x, x.table(-1), 2);
        check.refused("table(21)", x, x.table(21), 2);
        check.due("the tape stays", x.told(11), 20);
        check.refused("table(10)", x, x.table(10), 4);
        check.due("what lies stays", x.taken(), 3);
        check.due("SEED stays", x.told(8), 9);
        check.due("acts stay", x.told(9), 1);
        check.due("images stay", x.told(10), 1);
        // only the first n bytes count, and the tape is empty behind them
        Check.feed(x, SMALL + ";lay 2;nonsense");
        check.fine("table of a part", x, x.table(SMALL.length() + 6), 3);
        check.due("what is told lies", x.taken(), 4);
        check.due("SEED anew", x.told(8), 0);
        check.due("acts anew", x.told(9), 0);
        check.due("images anew", x.told(10), 0);
        check.due("the tape is empty", x.told(11), 0);
        check.refused("nothing to undo", x, x.undo(), 6);
        check.refused("no image", x, x.back(0), 1);
        check.refused("table(0)", x, x.table(0), 4);
        check.due("fault() of nothing", x.fault(), 1);
        check.due("where() of nothing", x.where(), 0);
    }

    private static void faultAndWhere() {
        CoinsLaid x = new CoinsLaid();
        Check.tell(x, "table loses;table");
        check.due("fault()", x.fault(), 3);
        x.table(77);
        check.due("fault() behind 2", x.fault(), 3);
        check.due("where() behind 2", x.where(), -1);
        Check.tell(x, "table loses;table");
        check.due("where()", x.where(), 12);
        x.told(3);
        x.feed(0, 0, 0, 0, 0);
        check.due("where() behind calls of no number", x.where(), 12);
        x.size(1, 1);
        check.due("where() behind a good call", x.where(), -1);
        check.due("fault() behind a good call", x.fault(), 3);
        x.table(20);
        check.due("fault() of a zero byte", x.fault(), 1);
        Check.tell(x, SMALL);
        check.due("fault() of a good table", x.fault(), 0);
    }

    private static void faultsOfForm() {
        check.fault("   ", 1, 3);
        check.fault("table loses;", 1, 12);
        check.fault("table loses;  ", 1, 14);
        check.fault("table loses;;", 1, 12);
        check.fault("Table loses", 1, 0);
        check.fault("tables loses", 1, 0);
        check.fault("table", 1, 5);
        check.fault("table apart", 1, 6);
        check.fault("table loses wins", 1, 12);
        check.fault("table loses apart apart", 1, 18);
        check.fault("abcdefghi", 1, 0);
        check.fault("board abcdefghi", 1, 6);
        check.fault("board abcdefgh wide 1234", 1, 20);
        check.fault("board a wide 001", 1, 16);
        check.fault("board a 3", 1, 8);
        check.fault("board a high", 1, 8);
        check.fault("board 3", 1, 6);
        check.fault("board lay", 1, 6);
        check.fault("board a wide b", 1, 13);
        check.fault("board a wide 1 wide 1", 1, 15);
        check.fault("board a wide 1 high 1 apart", 1, 22);
        check.fault("board a wide 2 high 2;jug table", 1, 26);
        check.fault("board a wide 2 high 2;jug a 0", 1, 29);
        check.fault("board a wide 2 high 2;jug a 0 0", 1, 30);
        check.fault("board a wide 2 high 2;jug a 0;0", 1, 29);
        check.fault("board a wide 2 high 2;jug a 0,,", 1, 30);
        check.fault("piece piece", 1, 6);
        check.fault("piece p", 1, 7);
        check.fault("piece p table", 1, 8);
        check.fault("piece p coin 2", 1, 13);
        check.fault("piece p coin first second", 1, 19);
        check.fault("piece p coin first turns", 1, 19);
        check.fault("piece p coin turns turns", 1, 19);
        check.fault("piece p block 1", 1, 15);
        check.fault("piece p block a", 1, 14);
        check.fault(SMALL + ";lay", 1, SMALL.length() + 4);
        check.fault(SMALL + ";lay a", 1, SMALL.length() + 5);
        check.fault(SMALL + ";lay 0 1", 1, SMALL.length() + 7);
        check.fault(SMALL + ";lay 0000", 1, SMALL.length() + 5);
        check.fault("cable loses", 1, 0);
        check.fault("table noses", 1, 6);
        check.fault("table loses`", 1, 11);
        check.fault("table loses{", 1, 11);
        check.fault("board a wide /", 1, 13);
        check.fault("board a wide :", 1, 13);
        check.fault("table loses.", 1, 11);
        check.fault("table loses\n", 1, 11);
        check.fault("table lo" + (char) 233 + "ses", 1, 6);
    }

    private static void faultsOfNames() {
        check.fault("jug a", 2, 4);
        check.fault("piece p coin;jug p", 2, 17);
        check.fault("board a wide 2 high 2;jug b", 2, 26);
        check.fault("board a wide 2 high 2;board a", 3, 28);
        check.fault("piece p coin;board p", 3, 19);
        check.fault("board a wide 2 high 2;piece a", 3, 28);
        check.fault("piece p coin;piece p coin", 3, 19);
        check.fault("board a wide 2 high 2;jug a 1,1;jug a 0,1;jug a 1,1", 3, 50);
        check.fault("table wins apart;table", 3, 17);
        check.fault(SMALL + ";lay 0;table", 3, SMALL.length() + 7);
    }

    private static void faultsOfBounds() {
        check.fault("board a wide 0", 4, 13);
        check.fault("board a wide 9", 4, 13);
        check.fault("board a wide 1 high 0", 4, 20);
        check.fault("board a wide 1 high 5", 4, 20);
        check.fault("board a wide 5 high 3", 4, 20);
        check.fault("board a wide 7 high 2;board b wide 1 high 1", 4, 42);
        check.fault("board a wide 3 high 2;jug a 3", 4, 28);
        check.fault("board a wide 3 high 2;jug a 2,2", 4, 30);
        check.fault("piece p block 0", 4, 14);
        check.fault("piece p block 5", 4, 14);
        check.fault("piece p block 4,0", 4, 16);
        check.fault("piece p block 4,5", 4, 16);
        check.fault("piece p corner 1", 4, 15);
        check.fault("piece p corner 4", 4, 15);
        check.fault("piece p corner 3,1", 4, 17);
        check.fault("piece p corner 3,4", 4, 17);
    }

    private static void faultsOfManyAndLacks() {
        String boards = "board a wide 1 high 1;board b wide 1 high 1;board c wide 1 high 1;";
        check.fault(boards + "board d wide 1 high 1", 5, 66);
        String pieces = "piece p coin;piece q coin;piece r coin;piece s coin;";
        check.fault(pieces + "piece", 5, 52);
        String big = "table loses;board a wide 7 high 2;piece p coin";
        StringBuilder eight = new StringBuilder(big);
        for (int i = 0; i < 8; i++) {
            eight.append(";lay ").append(i);
        }
        check.fault(eight + ";lay 8", 5, eight.length() + 1);
        check.fault("lay 0", 6, 0);
        check.fault("board a wide 1 high 1;piece p coin;lay", 6, 35);
        check.fault(SMALL + ";lay 0;board b", 6, SMALL.length() + 7);
        check.fault(SMALL + ";lay 0;piece q", 6, SMALL.length() + 7);
        check.fault(SMALL + ";lay 0;jug a", 6, SMALL.length() + 7);
        // of one place the least number
        String full = "table loses;" + boards + pieces + "lay 0;";
        check.fault(full + "board d", 5, full.length());
        check.fault(full + "piece t", 5, full.length());
        check.fault("board a wide 1 high 1;piece p coin", 6, 34);
        check.fault("table wins;piece p coin", 6, 23);
        check.fault("table wins;board a wide 1 high 1  ", 6, 34);
    }

    private static void faultsOfLays() {
        check.fault("table loses;lay 0", 7, 16);
        check.fault(SMALL + ";lay 3", 7, SMALL.length() + 5);
        check.fault(SMALL + ";lay 999", 7, SMALL.length() + 5);
        check.fault(SMALL + ";lay 1;lay 1", 7, SMALL.length() + 11);
        check.fault("table loses apart;board a wide 3 high 1;piece p coin;lay 0;lay 1", 7, 63);
        check.fault("table loses;board a wide 3 high 1;piece p coin second;lay 0", 7, 58);
        check.fault("table loses;board a wide 3 high 1;piece p coin first;lay 0;lay 1", 7, 63);
        check.due("a lay of each one's own", check.on("table loses;board a wide 2 high 1;piece p coin first;"
                + "piece q coin second;lay 0;lay 3").taken(), 3);
    }

    private static void told() {
        CoinsLaid x = check.on("table wins apart;board a wide 4 high 2;board b wide 3 high 1;jug a 0,0;jug b 2,0;"
                + "piece p coin;piece q block 2,1 first;piece r coin;lay 0");
        int[] due = {2, 3, 11, 2, 1, 1, 1, 1, 0, 0, 0, 0};
        for (int what = 0; what < due.length; what++) {
            check.due("told(" + what + ")", x.told(what), due[what]);
        }
        check.due("told(12)", x.told(12), -1);
        check.due("told(-1)", x.told(-1), -1);
        check.due("told(MIN)", x.told(Integer.MIN_VALUE), -1);
        x.seed(11);
        x.image();
        x.image();
        x.puts(x.layAt(0));
        Check.feed(x, "x");
        int[] then = {2, 3, 11, 2, 1, 1, 2, 0, 11, 1, 2, 20};
        for (int what = 0; what < then.length; what++) {
            check.due("then told(" + what + ")", x.told(what), then[what]);
        }
        check.due("told(4) of one that loses", check.on(SMALL).told(4), 0);
        check.due("told(5) of one that may touch", check.on(SMALL).told(5), 0);
    }

    private static void trouble() {
        CoinsLaid x = check.on(SMALL);
        check.due("trouble()", x.trouble(), 0);
        x.may(3);
        check.due("trouble() 1", x.trouble(), 1);
        x.told(99);
        x.fault();
        x.where();
        x.feed(1, 1, 1, 1, 1);
        Check.ledThrows(x, 5);
        check.due("trouble() stays", x.trouble(), 1);
        x.seed(-1);
        check.due("trouble() 2", x.trouble(), 2);
        x.image();
        x.image();
        x.image();
        check.due("trouble() 0", x.trouble(), 0);
        x.image();
        check.due("trouble() 3", x.trouble(), 3);
        x.table(1);
        check.due("trouble() 4", x.trouble(), 4);
        x.puts(0);
        x.puts(0);
        check.due("trouble() 5", x.trouble(), 5);
        x.undo();
        x.undo();
        check.due("trouble() 6", x.trouble(), 6);
        x.over();
        check.due("trouble() 0 again", x.trouble(), 0);
    }
}
