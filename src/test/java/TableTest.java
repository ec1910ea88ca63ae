/** Promises 1 to 5, with term I: a new object, the tape, what is a table, its faults and their places. */
public final class TableTest {
    private static final Check check = new Check("TableTest");
    private static final String SMALL = "table loses;board a wide 3 high 1;piece p coin";
    private static final String BOARDS = "board a wide 1 high 1;board b wide 1 high 1;board c wide 1 high 1;";
    private static final String PIECES = "piece p coin;piece q coin;piece r coin;piece s coin;";
    private static final String BOARD = "board a wide 3 high 2;";

    public static void main(String[] args) throws Exception {
        check.runAll(TableTest.class);
    }

    // ---- Promise 1: a new object

    static void promise01_aNewObjectTellsNothing() {
        CoinsLaid x = new CoinsLaid();
        for (int what = 0; what <= 11; what++) {
            check.due("told(" + what + ")", x.told(what), 0);
        }
        check.due("led(0) throws", Check.ledThrows(x, 0), true);
    }

    static void promise01_aNewObjectHasNoTrouble() {
        CoinsLaid x = new CoinsLaid();
        check.due("trouble()", x.trouble(), 0);
        check.due("fault()", x.fault(), 0);
        check.due("where()", x.where(), -1);
    }

    static void promise01_aNewObjectHasNoTable() {
        CoinsLaid x = new CoinsLaid();
        check.refused("lays()", x, x.lays(), 1);
        check.refused("has()", x, x.has(), 1);
        check.refused("image()", x, x.image(), 1);
        check.due("NONE", CoinsLaid.NONE, -1);
    }

    static void promise01_twoObjectsShareNothing() {
        CoinsLaid x = check.on(SMALL + ";lay 0");
        CoinsLaid y = new CoinsLaid();
        check.due("told(6) of the other one", y.told(6), 0);
        Check.tell(y, SMALL);
        y.puts(2);
        check.due("taken()", x.taken(), 1);
        check.due("taken() of the other one", y.taken(), 4);
    }

    // ---- Promise 2: feed

    static void promise02_eachCallBringsTwentyBytes() {
        CoinsLaid x = new CoinsLaid();
        for (int i = 1; i <= 45; i++) {
            check.due("feed " + i, x.feed(i, -i, 0, 1 << 31, 7), 20 * i);
            check.due("told(11) behind feed " + i, x.told(11), 20 * i);
        }
    }

    static void promise02_theTapeIsFullWith900Bytes() {
        CoinsLaid x = new CoinsLaid();
        Check.feed(x, SMALL + ";" + " ".repeat(899 - SMALL.length()));
        check.due("told(11)", x.told(11), 900);
        check.due("feed to 920", x.feed(0x7461626c, 0, 0, 0, 0), -1);
        check.due("feed to 920 again", x.feed(0, 0, 0, 0, 0), -1);
        check.due("none comes", x.told(11), 900);
        // the bytes that had no room are not there behind the others either
        check.refused("table(920)", x, x.table(920), 2);
        check.refused("table(900)", x, x.table(900), 4);
        check.due("fault()", x.fault(), 1);
        check.due("where()", x.where(), 900);
    }

    static void promise02_all900BytesAreRead() {
        CoinsLaid x = new CoinsLaid();
        Check.feed(x, " ".repeat(900 - SMALL.length()) + SMALL);
        check.fine("table(900)", x, x.table(900), 3);
    }

    static void promise02_thereIsRoomAgainBehindTable() {
        CoinsLaid x = new CoinsLaid();
        Check.feed(x, " ".repeat(900));
        x.table(900);
        check.due("feed behind a table with a fault", x.feed(0, 0, 0, 0, 0), 20);
        check.due("feed behind it", x.feed(0, 0, 0, 0, 0), 40);
        x.table(41);
        check.due("feed behind a table refused by 2", x.feed(0, 0, 0, 0, 0), 60);
    }

    static void promise02_ofEachNumberTheHighestByteIsFirst() {
        CoinsLaid x = new CoinsLaid();
        x.feed(0x7461626c, 0x65206c6f, 0x7365733b, 0x7461626c, 0x65202020);
        check.refused("table of 'table loses;table'", x, x.table(18), 4);
        check.due("fault()", x.fault(), 3);
        check.due("where()", x.where(), 12);
    }

    static void promise02_bytesAbove127AreBytesToo() {
        CoinsLaid x = new CoinsLaid();
        // ' ' and then 255, 255, 255; a number below 0 has its highest byte first, too
        check.due("feed", x.feed(0x20ffffff, -1, Integer.MIN_VALUE, Integer.MAX_VALUE, 0), 20);
        x.table(20);
        check.due("where()", x.where(), 1);
        x.feed(-1, 0, 0, 0, 0);
        x.table(20);
        check.due("fault() of 255", x.fault(), 1);
        check.due("where() of 255", x.where(), 0);
        // a byte is not taken by its lower seven bits: 't' and 128
        x.feed(0xf461626c, 0x65206c6f, 0x73657320, 0x20202020, 0x20202020);
        x.table(20);
        check.due("where() of 't' and 128", x.where(), 0);
    }

    // ---- Promise 3: table

    static void promise03_nBelowZeroIsRefusedBy2() {
        CoinsLaid x = new CoinsLaid();
        check.refused("table(-1) of an empty tape", x, x.table(-1), 2);
        Check.feed(x, SMALL);
        int has = x.told(11);
        check.refused("table(-1)", x, x.table(-1), 2);
        check.refused("table(MIN)", x, x.table(Integer.MIN_VALUE), 2);
        check.due("the tape stays", x.told(11), has);
        check.fine("and can be told", x, x.table(SMALL.length()), 3);
    }

    static void promise03_moreThanTheTapeHasIsRefusedBy2() {
        CoinsLaid x = new CoinsLaid();
        check.refused("table(1) of an empty tape", x, x.table(1), 2);
        Check.feed(x, SMALL);
        int has = x.told(11);
        check.refused("table of one byte more", x, x.table(has + 1), 2);
        check.refused("table(901)", x, x.table(901), 2);
        check.refused("table(MAX)", x, x.table(Integer.MAX_VALUE), 2);
        check.due("the tape stays", x.told(11), has);
        check.fine("and can be told", x, x.table(SMALL.length()), 3);
    }

    static void promise03_allBytesOfTheTapeMayBeTold() {
        CoinsLaid x = new CoinsLaid();
        Check.feed(x, SMALL);
        check.fine("table of all with blanks behind", x, x.table(x.told(11)), 3);
        check.due("the tape is empty", x.told(11), 0);
    }

    static void promise03_refusedBy2TheTableStays() {
        CoinsLaid x = check.on(SMALL + ";lay 1");
        x.puts(0);
        x.image();
        x.seed(9);
        x.table(1);
        stands(x);
    }

    static void promise03_refusedBy4TheTableStays() {
        CoinsLaid x = check.on(SMALL + ";lay 1");
        x.puts(0);
        x.image();
        x.seed(9);
        check.refused("table", x, Check.tell(x, "table wins apart;board a wide 8 high 1;jug a 0,0;piece p coin;lay 6;lay 7"), 4);
        check.due("the tape is empty", x.told(11), 0);
        stands(x);
        // what was told as laid ahead of the fault lies nowhere
        check.due("takes()", x.takes(), 0);
        check.due("takes() of what was told", x.takes(), 1);
    }

    private static void stands(CoinsLaid x) {
        int[] due = {1, 1, 3, 0, 0, 0, 2, 0, 9, 1, 1};
        for (int what = 0; what < due.length; what++) {
            check.due("told(" + what + ") stays", x.told(what), due[what]);
        }
        check.due("taken() stays", x.taken(), 3);
        check.due("lays() stays", x.lays(), 1);
        check.due("has() stays", x.has(), 1);
    }

    static void promise03_theFirstNBytesAloneAreTold() {
        CoinsLaid x = new CoinsLaid();
        Check.feed(x, SMALL + ";lay 2;nonsense");
        check.fine("table of a part", x, x.table(SMALL.length() + 6), 3);
        check.due("taken()", x.taken(), 4);
        check.due("the tape is empty, the rest is gone", x.told(11), 0);
        check.refused("table of the rest", x, x.table(1), 2);
    }

    static void promise03_aWordIsCutByN() {
        CoinsLaid x = new CoinsLaid();
        Check.feed(x, SMALL + "s");
        check.fine("table ahead of the last letter", x, x.table(SMALL.length()), 3);
        Check.feed(x, SMALL + ";lay 12");
        check.fine("table ahead of the last digit", x, x.table(SMALL.length() + 6), 3);
        check.due("taken()", x.taken(), 2);
    }

    static void promise03_anEmptyTextIsNoTable() {
        CoinsLaid x = new CoinsLaid();
        check.refused("table(0) of an empty tape", x, x.table(0), 4);
        check.due("fault()", x.fault(), 1);
        check.due("where()", x.where(), 0);
        Check.feed(x, SMALL);
        check.refused("table(0)", x, x.table(0), 4);
        check.due("the tape is empty", x.told(11), 0);
    }

    static void promise03_allIsAnew() {
        CoinsLaid x = check.on(SMALL + ";lay 1");
        x.puts(0);
        x.image();
        x.seed(9);
        check.fine("table", x, Check.tell(x, SMALL + ";lay 2;lay 0"), 3);
        check.due("what is told as laid lies", x.taken(), 5);
        check.due("the first laid first", x.led(0), 2);
        check.due("SEED is 0", x.told(8), 0);
        check.due("told(9)", x.told(9), 0);
        check.refused("nothing to undo", x, x.undo(), 6);
        check.due("told(10)", x.told(10), 0);
        check.refused("no IMAGES", x, x.back(0), 1);
    }

    static void promise03_lessLiesThanAhead() {
        CoinsLaid x = check.on(SMALL + ";lay 1;lay 2;lay 0");
        Check.tell(x, SMALL);
        check.due("told(6)", x.told(6), 0);
        check.due("taken()", x.taken(), 0);
        check.due("has()", x.has(), 1);
    }

    static void promise03_smallAndLargeTablesByTurns() {
        CoinsLaid x = check.on("table loses;board a wide 1 high 1;piece p coin");
        check.due("has() of one square", x.has(), 1);
        Check.tell(x, "table loses;board a wide 7 high 2;piece p coin");
        check.due("has() of 14", x.has(), 0);
        check.due("soonest() of 14", x.soonest(), 14);
        Check.tell(x, "table loses;board a wide 5 high 1;piece p coin");
        check.due("has() of 5", x.has(), 1);
        check.due("soonest() of 5", x.soonest(), 5);
        Check.tell(x, "table wins;board a wide 5 high 1;piece p coin");
        check.due("has() of 5, wins", x.has(), 0);
    }

    static void promise03_nothingIsLeftOfATableOfTheSameSize() {
        CoinsLaid x = check.on("table loses;board a wide 4 high 1;piece p coin");
        measures(x, 0, 4, 24, 4, 4, 4000000, 0);
        Check.tell(x, "table loses;board a wide 4 high 1;piece p block 2,1");
        measures(x, 1, 1, 3, 1, 2, 1666666, 2);
        Check.tell(x, "table loses;board a wide 4 high 1;piece p block 4,1");
        measures(x, 1, 1, 1, 1, 1, 1000000, 1);
        Check.tell(x, "table loses;board a wide 4 high 1;piece p coin");
        measures(x, 0, 4, 24, 4, 4, 4000000, 0);
    }

    private static void measures(CoinsLaid x, int has, int soonest, int ways, int fewest, int most, int lot, int heap) {
        check.due("has()", x.has(), has);
        check.due("soonest()", x.soonest(), soonest);
        check.due("ways()", x.ways(), ways);
        check.due("fewest()", x.fewest(), fewest);
        check.due("most()", x.most(), most);
        check.due("lot()", x.lot(), lot);
        check.due("heap(-1)", x.heap(-1), heap);
    }

    static void promise03_itAnswersHowManyLaysThereAre() {
        check.good(SMALL, 3);
        check.good(SMALL + ";lay 0;lay 1", 3);
        check.good("table loses;board a wide 4 high 3;board b wide 2 high 1;piece p corner 2,3 turns", 3 + 4 + 3 + 4);
        // none is as good as many
        check.good("table loses;board a wide 3 high 1;piece p block 4,1", 0);
        check.good("table wins;" + BOARDS + "jug a 0,0;jug b 0,0;jug c 0,0;piece p coin", 0);
    }

    static void promise03_theMostLays() {
        String corner = " corner 2,2 turns;";
        check.good("table loses;board a wide 7 high 2;piece p" + corner + "piece q" + corner + "piece r" + corner
                + "piece s corner 2,2 turns", 96);
        check.good("table loses;board a wide 4 high 3;board b wide 2 high 1;piece p block 1,2 turns;"
                + "piece q block 2,1 turns;piece r corner 3,2 turns;piece s coin", 18 + 18 + 14 + 14);
    }

    static void promise03_linesMayStandInAnyOrderAheadOfLays() {
        check.good("piece p coin;board a wide 2 high 2;jug a 1,1;table loses", 3);
        check.good("board a wide 2 high 2;table loses;jug a 1,1;piece p coin;board b wide 1 high 1;jug a 0,1;lay 0", 3);
        check.good(BOARDS + "table loses;piece p coin;lay 0", 3);
    }

    static void promise03_lawsAndApart() {
        check.good("table loses;board a wide 3 high 1;piece p coin", 3);
        check.good("table wins;board a wide 3 high 1;piece p coin", 3);
        check.good("table loses apart;board a wide 3 high 1;piece p coin", 3);
        check.good("table wins apart;board a wide 3 high 1;piece p coin", 3);
    }

    static void promise03_blanksPartTokensAndMeanNothingElse() {
        check.good("  table  wins apart ;board   a wide 1high 1 ;   piece p block 4 , 4 turns second  ", 0);
        check.good("table loses;board a wide2high2;jug a0,1;piece p block1,2turns;lay0", 2);
        check.good(SMALL + " ".repeat(500), 3);
    }

    static void promise03_wordsOfOneToEightLetters() {
        check.good("table loses;board a wide 2 high 1;piece abcdefgh coin", 2);
        check.good("table loses;board abcdefgh wide 2 high 1;jug abcdefgh 1,0;piece z coin", 1);
    }

    static void promise03_namesThatOnlyBeginOrEndAlike() {
        check.good("table loses;board a wide 1 high 1;board aa wide 2 high 1;board z wide 1 high 1;jug aa 1,0;"
                + "piece azzz coin;piece azz coin", 6);
        check.good("table loses;board abcdefgh wide 1 high 1;board abcdefgi wide 1 high 1;board abcdefg wide 1 high 1;"
                + "piece bcdefgh coin;piece zzzzzzzz coin;piece zzzzzzzy coin;piece azzzzzzz coin", 12);
    }

    static void promise03_wordsOfTheTextMayBeNames() {
        check.good("board wide wide 002 high 1;piece high coin turns first;table wins;jug wide 0,0", 1);
        check.good("table loses;board coin wide 7 high 2;piece first coin;piece turns corner 3,3;"
                + "piece block block 1,1 turns;piece wins corner 2,2 turns", 14 + 14 + 24);
        check.good("table loses;board apart wide 1 high 1;piece second coin second;piece loses coin;piece corner coin;"
                + "piece tables coin;lay 1", 4);
        check.good("table loses;board lays wide 1 high 1;board jugs wide 1 high 1;board pieces wide 1 high 1;"
                + "piece boards coin;piece tabl coin", 6);
    }

    static void promise03_wholesOfOneToThreeDigits() {
        check.good("table loses;board a wide 3 high 001;piece p block 02,1;lay 001", 2);
        check.good("table loses;board a wide 003 high 1;jug a 000,00;piece p coin;lay 00", 2);
    }

    static void promise03_boardsOfOneToEightAndOneToFour() {
        check.good("table loses;board a wide 1 high 1;piece p coin", 1);
        check.good("table loses;board a wide 8 high 1;piece p coin", 8);
        check.good("table loses;board a wide 1 high 4;piece p coin", 4);
        check.good("table loses;board a wide 3 high 4;piece p coin", 12);
    }

    static void promise03_fourteenSquaresAtMost() {
        check.good("table loses;board a wide 7 high 2;piece p coin", 14);
        check.good("table loses;board a wide 8 high 1;board b wide 5 high 1;board c wide 1 high 1;piece p coin", 14);
        check.good("table loses;board a wide 3 high 4;board b wide 1 high 2;piece p coin", 14);
    }

    static void promise03_upToThreeBoards() {
        check.good("table loses;" + BOARDS + "piece p coin", 3);
    }

    static void promise03_upToFourPieces() {
        check.good("table loses;board a wide 1 high 1;" + PIECES + "jug a 0,0", 0);
        check.good("table loses;" + BOARDS + PIECES + "lay 11", 12);
    }

    static void promise03_jugsOnAllSquares() {
        StringBuilder text = new StringBuilder("table loses;board a wide 7 high 2;piece p coin");
        for (int i = 0; i < 14; i++) {
            text.append(";jug a ").append(i % 7).append(',').append(i / 7);
        }
        check.good(text.toString(), 0);
        check.due("told(3)", check.on(text.toString()).told(3), 14);
    }

    static void promise03_blocksOfOneToFour() {
        check.good("table loses;board a wide 4 high 3;piece p block 1,1", 12);
        check.good("table loses;board a wide 4 high 3;piece p block 4,3", 1);
        check.good("table loses;board a wide 3 high 4;piece p block 3,4", 1);
        check.good("table loses;board a wide 3 high 4;piece p block 4,4", 0);
    }

    static void promise03_cornersOfTwoToThree() {
        check.good("table loses;board a wide 4 high 3;piece p corner 2,2", 6);
        check.good("table loses;board a wide 4 high 3;piece p corner 3,2", 4);
        check.good("table loses;board a wide 4 high 3;piece p corner 2,3", 3);
        check.good("table loses;board a wide 4 high 3;piece p corner 3,3", 2);
    }

    static void promise03_turnsAndOnesOwnArePerhapsTold() {
        check.good("table loses;board a wide 2 high 2;piece p coin;piece q block 1,2 turns;piece r block 1,2 first;"
                + "piece s block 1,2 turns second", 4 + 4 + 2 + 4);
    }

    static void promise03_upToEightLays() {
        String text = eightLays();
        CoinsLaid x = check.on(text);
        check.due("told(6)", x.told(6), 8);
        check.due("taken()", x.taken(), 255);
    }

    private static String eightLays() {
        StringBuilder text = new StringBuilder("table loses;board a wide 7 high 2;piece p coin");
        for (int i = 0; i < 8; i++) {
            text.append(";lay ").append(i);
        }
        return text.toString();
    }

    static void promise03_itMayBeOverAsTold() {
        check.good("table loses;board a wide 1 high 1;piece p coin;lay 0", 1);
        check.good("table wins;board a wide 2 high 1;piece p coin;lay 1;lay 0", 2);
    }

    // ---- Promise 4: fault

    static void promise04_noFaultWithoutATable() {
        CoinsLaid x = new CoinsLaid();
        check.due("fault() of a new object", x.fault(), 0);
        x.table(7);
        check.due("fault() behind a table refused by 2", x.fault(), 0);
    }

    static void promise04_aTableRefusedBy2HasNoFaultOfItsOwn() {
        CoinsLaid x = new CoinsLaid();
        Check.tell(x, "table loses;table");
        check.due("fault()", x.fault(), 3);
        x.table(77);
        check.due("fault() behind table(77)", x.fault(), 3);
        x.table(-1);
        check.due("fault() behind table(-1)", x.fault(), 3);
        Check.tell(x, SMALL);
        x.table(77);
        check.due("fault() of a good one behind table(77)", x.fault(), 0);
    }

    static void promise04_theLatestCounts() {
        CoinsLaid x = new CoinsLaid();
        Check.tell(x, "lay 0");
        check.due("fault()", x.fault(), 6);
        Check.tell(x, "jug a");
        check.due("fault() of another", x.fault(), 2);
        x.has();
        check.due("fault() behind another call", x.fault(), 2);
        Check.tell(x, SMALL);
        check.due("fault() of a good table", x.fault(), 0);
        Check.tell(x, "table");
        check.due("fault() behind a good table", x.fault(), 1);
    }

    static void promise04_fault1_bytesThatBeginNoToken() {
        check.fault(1, "^Table loses");
        check.fault(1, "table^\nloses");
        check.fault(1, "table^\tloses");
        check.fault(1, "table loses^.");
        check.fault(1, "table loses^`");
        check.fault(1, "table loses^{");
        check.fault(1, "table loses^" + (char) 233);
        check.fault(1, "board a wide ^/");
        check.fault(1, "board a wide ^:");
        check.fault(1, "board a wide ^-1");
        check.fault(1, "board a wide 1 high 1^" + (char) 0);
        check.fault(1, "board a wide 1 high 1^" + (char) 255);
        check.fault(1, "board a^B wide 1");
    }

    static void promise04_fault1_wordsOfNineLettersAtTheFirst() {
        check.fault(1, "^abcdefghi");
        check.fault(1, "board ^abcdefghi wide 1 high 1");
        check.fault(1, "piece ^boardboar");
        check.fault(1, "jug ^" + "z".repeat(40));
        check.fault(1, "board abcdefgh wide 1 high 1;jug ^abcdefghi 0,0");
    }

    static void promise04_fault1_wholesOfFourDigitsAtTheFirst() {
        check.fault(1, "board a wide ^0001 high 1");
        check.fault(1, "board a wide ^1234");
        check.fault(1, BOARD + "jug a 0,^0000");
        check.fault(1, "piece p block ^" + "1".repeat(40));
        check.fault(1, SMALL + ";lay ^0000");
    }

    static void promise04_fault1_atTheBeginOfALine() {
        check.fault(1, "^tables loses");
        check.fault(1, "^tabl loses");
        check.fault(1, "^cable loses");
        check.fault(1, "^loses");
        check.fault(1, "^;table loses");
        check.fault(1, "^,");
        check.fault(1, "^1");
        check.fault(1, "table loses;^;");
        check.fault(1, "table loses;^apart");
    }

    static void promise04_fault1_behindALineWithoutASemicolon() {
        check.fault(1, "table loses^,board a wide 1 high 1");
        check.fault(1, "table loses ^board a wide 1 high 1");
        check.fault(1, "board a wide 1 high 1 ^apart");
        check.fault(1, "board a wide 1 high 1 ^2");
        check.fault(1, BOARD + "jug a 0,0^,0");
        check.fault(1, "piece p coin ^2");
        check.fault(1, SMALL + ";lay 0 ^1");
        check.fault(1, SMALL + ";lay 0^,1");
    }

    static void promise04_fault1_atTheEnd() {
        check.fault(1, "^");
        check.fault(1, "   ^");
        check.fault(1, "table^");
        check.fault(1, "table loses;^");
        check.fault(1, "board^");
        check.fault(1, "board a^");
        check.fault(1, "board a wide^");
        check.fault(1, "board a wide 1^");
        check.fault(1, "board a wide 1 high^");
        check.fault(1, "jug^");
        check.fault(1, BOARD + "jug a^");
        check.fault(1, BOARD + "jug a 0^");
        check.fault(1, BOARD + "jug a 0,^");
        check.fault(1, "piece^");
        check.fault(1, "piece p^");
        check.fault(1, "piece p block^");
        check.fault(1, "piece p block 1^");
        check.fault(1, "piece p block 1,^");
        check.fault(1, "piece p corner^");
        check.fault(1, SMALL + ";lay^");
    }

    static void promise04_fault1_theLaw() {
        check.fault(1, "table ^apart");
        check.fault(1, "table ^noses");
        check.fault(1, "table ^lose");
        check.fault(1, "table ^winss");
        check.fault(1, "table ^1");
        check.fault(1, "table loses ^wins");
        check.fault(1, "table loses apart ^apart");
    }

    static void promise04_fault1_theFiveWordsAreNoNames() {
        for (String word : new String[] {"table", "board", "jug", "piece", "lay"}) {
            check.fault(1, "board ^" + word + " wide 1 high 1");
            check.fault(1, "piece ^" + word + " coin");
            check.fault(1, BOARD + "jug ^" + word + " 0,0");
        }
    }

    static void promise04_fault1_otherThanANameMustStandThere() {
        check.fault(1, "board ^3");
        check.fault(1, "board ^;");
        check.fault(1, "piece ^,");
        check.fault(1, "jug ^0");
    }

    static void promise04_fault1_ofABoard() {
        check.fault(1, "board a ^high 1");
        check.fault(1, "board a ^3");
        check.fault(1, "board a wide ^b");
        check.fault(1, "board a wide ^,1");
        check.fault(1, "board a wide 1 ^wide 1");
        check.fault(1, "board a wide 1^, 1");
        check.fault(1, "board a wide 1 high ^high");
    }

    static void promise04_fault1_ofAJug() {
        check.fault(1, BOARD + "jug a ^a");
        check.fault(1, BOARD + "jug a ^,");
        check.fault(1, BOARD + "jug a 0 ^0");
        check.fault(1, BOARD + "jug a 0^;0");
        check.fault(1, BOARD + "jug a 0,^,");
        check.fault(1, BOARD + "jug a 0,^x");
    }

    static void promise04_fault1_ofAPiece() {
        check.fault(1, "piece p ^table");
        check.fault(1, "piece p ^coins");
        check.fault(1, "piece p ^1");
        check.fault(1, "piece p ^turns");
        check.fault(1, "piece p block ^a");
        check.fault(1, "piece p block 1 ^1");
        check.fault(1, "piece p block 1^;");
        check.fault(1, "piece p corner 2,^x");
        check.fault(1, "piece p coin turns ^turns");
        check.fault(1, "piece p coin first ^turns");
        check.fault(1, "piece p coin first ^second");
        check.fault(1, "piece p coin second ^first");
        check.fault(1, "piece p coin first ^first");
        check.fault(1, "piece p coin turns first ^second");
        check.fault(1, "piece p coin ^third");
    }

    static void promise04_fault1_ofALay() {
        check.fault(1, SMALL + ";lay ^a");
        check.fault(1, SMALL + ";lay ^,");
        check.fault(1, SMALL + ";lay^;");
    }

    static void promise04_fault2_aNameThatIsNotTold() {
        check.fault(2, "jug ^a");
        check.fault(2, BOARD + "jug ^b 0,0");
        check.fault(2, BOARD + "jug ^aa 0,0");
        // it is told behind its use alone
        check.fault(2, "jug ^a 0,0;board a wide 3 high 2");
    }

    static void promise04_fault2_aNameOfAnotherSort() {
        check.fault(2, "piece p coin;jug ^p 0,0");
        check.fault(2, BOARD + "piece p coin;jug ^p 0,0");
    }

    static void promise04_fault3_aNameToldAgain() {
        check.fault(3, BOARD + "board ^a wide 1 high 1");
        check.fault(3, BOARD + "piece ^a coin");
        check.fault(3, "piece p coin;board ^p wide 1 high 1");
        check.fault(3, "piece p coin;piece ^p coin");
        check.fault(3, "board abcdefgh wide 1 high 1;piece ^abcdefgh coin");
        check.fault(3, BOARDS + "piece ^c coin");
        check.fault(3, "piece p coin;piece q coin;piece r coin;piece ^r coin");
    }

    static void promise04_fault3_aJugToldAgainAtItsSecondWhole() {
        check.fault(3, BOARD + "jug a 0,0;jug a 0,^0");
        check.fault(3, BOARD + "jug a 1,1;jug a 0,1;jug a 1,^1");
        check.fault(3, BOARD + "board b wide 2 high 1;jug b 1,0;jug a 1,0;jug b 001,^0");
        // the like square of another board is another one
        check.good("table loses;" + BOARD + "board b wide 2 high 1;jug a 1,0;jug b 1,0;piece p coin", 6);
    }

    static void promise04_fault3_aJugMoreThanThereAreSquares() {
        check.fault(3, "board a wide 2 high 1;jug a 0,0;jug a 1,0;jug a 1,^0");
    }

    static void promise04_fault3_aSecondTable() {
        check.fault(3, "table loses;^table");
        check.fault(3, "table wins apart;^table wins apart");
        check.fault(3, "table loses;" + BOARD + "^table oops");
        check.fault(3, SMALL + ";lay 0;^table loses");
    }

    static void promise04_fault4_aBoardsWidth() {
        check.fault(4, "board a wide ^0 high 1");
        check.fault(4, "board a wide ^9 high 1");
        check.fault(4, "board a wide ^999");
        check.fault(4, "board a wide ^000");
    }

    static void promise04_fault4_aBoardsHeight() {
        check.fault(4, "board a wide 1 high ^0");
        check.fault(4, "board a wide 1 high ^5");
        check.fault(4, "board a wide 1 high ^999");
    }

    static void promise04_fault4_moreThanFourteenSquaresAtTheSecondWhole() {
        check.fault(4, "board a wide 5 high ^3");
        check.fault(4, "board a wide 8 high ^2");
        check.fault(4, "board a wide 7 high 2;board b wide 1 high ^1");
        check.fault(4, "board a wide 8 high 1;board b wide 5 high 1;board c wide 2 high ^1");
        check.fault(4, "board a wide 8 high ^4");
    }

    static void promise04_fault4_aJugOffItsBoard() {
        check.fault(4, BOARD + "jug a ^3,0");
        check.fault(4, BOARD + "jug a 2,^2");
        check.fault(4, BOARD + "jug a ^999,0");
        check.fault(4, BOARD + "jug a 0,^999");
        // a square of another board is none of this one
        check.fault(4, "board b wide 4 high 2;board a wide 2 high 1;jug a ^2,0");
        check.fault(4, "board b wide 4 high 2;board a wide 2 high 1;jug a 0,^1");
        check.good("table loses;" + BOARD + "jug a 2,1;jug a 0,0;piece p coin", 4);
    }

    static void promise04_fault4_aBlocksSize() {
        check.fault(4, "piece p block ^0,1");
        check.fault(4, "piece p block ^5,1");
        check.fault(4, "piece p block 4,^0");
        check.fault(4, "piece p block 4,^5");
        check.fault(4, "piece p block ^100,1");
    }

    static void promise04_fault4_aCornersSize() {
        check.fault(4, "piece p corner ^1,2");
        check.fault(4, "piece p corner ^4,2");
        check.fault(4, "piece p corner 3,^1");
        check.fault(4, "piece p corner 3,^4");
        check.fault(4, "piece p corner ^0,0");
    }

    static void promise04_fault5_aFourthBoard() {
        check.fault(5, BOARDS + "^board d wide 1 high 1");
        check.fault(5, BOARDS + "^board");
    }

    static void promise04_fault5_aFifthPiece() {
        check.fault(5, PIECES + "^piece t coin");
        check.fault(5, PIECES + "^piece");
    }

    static void promise04_fault5_aNinthLay() {
        check.fault(5, eightLays() + ";^lay 8");
        check.fault(5, eightLays() + ";^lay");
    }

    static void promise04_fault6_aLayAheadOfTheTable() {
        check.fault(6, "^lay 0");
        check.fault(6, "^lay");
        check.fault(6, BOARD + "piece p coin;^lay 0;table loses");
    }

    static void promise04_fault6_boardJugPieceBehindALay() {
        check.fault(6, SMALL + ";lay 0;^board b wide 1 high 1");
        check.fault(6, SMALL + ";lay 0;^jug a 2,0");
        check.fault(6, SMALL + ";lay 0;^piece q coin");
        check.fault(6, SMALL + ";lay 0;lay 1;^piece");
    }

    static void promise04_fault6_atTheEnd() {
        check.fault(6, BOARD + "piece p coin^");
        check.fault(6, "table wins;piece p coin^");
        check.fault(6, "table wins;board a wide 1 high 1^");
        check.fault(6, "table wins^");
        check.fault(6, "piece p coin^");
        check.fault(6, BOARD + "jug a 0,0   ^");
    }

    static void promise04_fault7_aLayThatThereIsNot() {
        check.fault(7, SMALL + ";lay ^3");
        check.fault(7, SMALL + ";lay ^999");
        check.fault(7, "table loses;lay ^0");
        check.fault(7, "table loses;" + BOARD + "lay ^0");
        check.fault(7, "table loses;piece p coin;lay ^0");
        check.fault(7, "table loses;board a wide 1 high 1;piece p block 2,1;lay ^0");
    }

    static void promise04_fault7_aLayThatMayNotBe() {
        check.fault(7, SMALL + ";lay 1;lay ^1");
        check.fault(7, "table loses;board a wide 3 high 1;piece p block 2,1;lay 0;lay ^1");
        check.fault(7, "table loses apart;board a wide 3 high 1;piece p coin;lay 0;lay ^1");
        check.good("table loses apart;board a wide 3 high 1;piece p coin;lay 0;lay 2", 3);
    }

    static void promise04_fault7_aLayOfTheOtherOnes() {
        check.fault(7, "table loses;board a wide 3 high 1;piece p coin second;lay ^0");
        check.fault(7, "table loses;board a wide 3 high 1;piece p coin first;lay 0;lay ^1");
        check.good("table loses;board a wide 3 high 1;piece p coin first;piece q coin second;lay 0;lay 4;lay 2", 6);
    }

    static void promise04_theFirstFromTheLeftCounts() {
        check.fault(2, "jug ^b 9,9;lay 0");
        check.fault(4, "board a wide ^9 high 9");
        check.fault(1, "board a wide ^# high 9");
        check.fault(7, SMALL + ";lay ^9;table;#");
        check.fault(6, "^lay 9");
        check.fault(5, BOARDS + "^board a wide 9");
    }

    static void promise04_ofOnePlaceTheLeastNumberCounts() {
        // the end: no TABLE ends with a semicolon, and no board is told
        check.fault(1, "table loses;^");
        check.fault(1, "table loses;" + BOARD + "piece^");
        String full = "table loses;" + BOARDS + PIECES + "lay 0;";
        check.fault(5, full + "^board d");
        check.fault(5, full + "^piece t");
        // too many digits, and out of bounds
        check.fault(1, "board a wide ^9999");
        // no name, and none that is told
        check.fault(1, "jug ^table");
    }

    // ---- Promise 5: where

    static void promise05_noneWithoutAFault() {
        CoinsLaid x = new CoinsLaid();
        check.due("where() of a new object", x.where(), -1);
        x.table(3);
        check.due("where() behind a table refused by 2", x.where(), -1);
        x.lays();
        check.due("where() behind one refused by 1", x.where(), -1);
        Check.tell(x, SMALL);
        check.due("where() of a good table", x.where(), -1);
    }

    static void promise05_ifTheLatestCallThatMayBeRefusedWasBy4() {
        CoinsLaid x = new CoinsLaid();
        Check.tell(x, "table loses;table");
        check.due("where()", x.where(), 12);
        check.due("where() again", x.where(), 12);
        x.size(1, 1);
        check.due("where() behind a good call", x.where(), -1);
        Check.tell(x, "table oops");
        check.due("where() of another", x.where(), 6);
        x.undo();
        check.due("where() behind one refused by 6", x.where(), -1);
        Check.tell(x, "table oops");
        x.table(100);
        check.due("where() behind a table refused by 2", x.where(), -1);
    }

    static void promise05_callsThatAreNotRefusedLeaveIt() {
        CoinsLaid x = new CoinsLaid();
        Check.tell(x, "table loses;table");
        x.feed(0, 0, 0, 0, 0);
        x.fault();
        x.trouble();
        x.told(3);
        x.told(99);
        Check.ledThrows(x, 0);
        check.due("where()", x.where(), 12);
    }

    static void promise05_theFirstAndTheLastPlace() {
        check.fault(1, "^#");
        check.fault(1, "^");
        CoinsLaid x = new CoinsLaid();
        Check.feed(x, " ".repeat(899) + "#");
        x.table(900);
        check.due("where() of the last byte", x.where(), 899);
        Check.feed(x, " ".repeat(900));
        x.table(900);
        check.due("where() of the end", x.where(), 900);
    }

    static void promise05_theEndIsBehindAllBlanks() {
        check.fault(1, "table loses;  ^");
        check.fault(1, "table    ^");
        check.fault(6, "table wins;piece p coin ^");
        CoinsLaid x = new CoinsLaid();
        Check.feed(x, "table                  loses");
        x.table(9);
        check.due("where() of the first 9 bytes", x.where(), 9);
    }
}
