/** Promises 26 to 28: fewest and most lays more, and how many by lot. */
public final class FullestTest {
    private static final Check check = new Check("FullestTest");
    private static final String OVER = "table loses;board a wide 1 high 1;piece p coin;lay 0";
    private static final String NO_LAYS = "table wins;board a wide 2 high 2;piece p block 3,3";
    private static final String FULL = "table loses;board a wide 7 high 2;piece p coin";

    public static void main(String[] args) throws Exception {
        check.runAll(FullestTest.class);
    }

    private static String row(int wide, String pieces) {
        return "table loses;board a wide " + wide + " high 1;" + pieces;
    }

    private static void fewest(String text, int due) {
        CoinsLaid x = check.on(text);
        check.fine("fewest() of " + text, x, x.fewest(), due);
    }

    private static void most(String text, int due) {
        CoinsLaid x = check.on(text);
        check.fine("most() of " + text, x, x.most(), due);
    }

    private static void lot(String text, int due) {
        CoinsLaid x = check.on(text);
        check.fine("lot() of " + text, x, x.lot(), due);
    }

    // ---- Promise 26: fewest

    static void promise26_noneIfOver() {
        fewest(OVER, 0);
        fewest(NO_LAYS, 0);
        fewest(row(4, "piece p coin second"), 0);
    }

    static void promise26_theFewestMoreTillOver() {
        fewest(row(3, "piece p block 2,1"), 1);
        fewest(row(4, "piece p block 2,1"), 1);
        fewest(row(5, "piece p block 2,1"), 2);
        fewest(row(8, "piece p block 2,1"), 3);
        fewest(row(4, "piece p coin;piece q block 4,1"), 1);
        fewest("table loses apart;board a wide 3 high 1;piece p coin", 1);
    }

    static void promise26_fourteenAtMost() {
        fewest(FULL, 14);
    }

    static void promise26_whoeverLaysHelpsThough() {
        // by the block in the middle he who is next loses: all the same
        fewest("table wins;board a wide 4 high 1;piece p block 2,1", 1);
        // 4 of 8 in the middle leave 2 and 2
        fewest(row(8, "piece p block 4,1;piece q block 3,1"), 1);
    }

    static void promise26_byTurnsWhatMayBe() {
        fewest(row(4, "piece p coin first"), 1);
        fewest(row(3, "piece p block 2,1 first;piece q coin second"), 2);
        fewest(row(5, "piece p block 2,1;piece q coin second"), 2);
        // second's block of 4 may never be, as first lays ahead of him
        fewest(row(4, "piece p coin;piece q block 4,1 second"), 4);
    }

    static void promise26_fromNowOn() {
        CoinsLaid x = check.on(row(6, "piece p block 2,1"));
        check.fine("fewest()", x, x.fewest(), 2);
        x.puts(0);
        check.fine("fewest() behind a lay", x, x.fewest(), 1);
        x.puts(3);
        check.fine("fewest() behind two", x, x.fewest(), 0);
    }

    static void promise26_noTable() {
        CoinsLaid x = new CoinsLaid();
        check.refused("fewest()", x, x.fewest(), 1);
    }

    // ---- Promise 27: most

    static void promise27_noneIfOver() {
        most(OVER, 0);
        most(NO_LAYS, 0);
        most(row(4, "piece p coin second"), 0);
    }

    static void promise27_theMostMoreTillOver() {
        most(row(3, "piece p block 2,1"), 1);
        most(row(4, "piece p block 2,1"), 2);
        most(row(8, "piece p block 2,1"), 4);
        most(row(4, "piece p coin;piece q block 4,1"), 4);
        most("table loses apart;board a wide 3 high 1;piece p coin", 2);
    }

    static void promise27_fourteenAtMost() {
        most(FULL, 14);
    }

    static void promise27_byTurnsWhatMayBe() {
        most(row(4, "piece p coin first"), 1);
        most(row(3, "piece p block 2,1 first;piece q coin second"), 2);
        most(row(5, "piece p block 2,1;piece q coin second"), 3);
    }

    static void promise27_fromNowOn() {
        CoinsLaid x = check.on(row(6, "piece p block 2,1"));
        check.fine("most()", x, x.most(), 3);
        x.puts(0);
        check.fine("most() behind a lay", x, x.most(), 2);
        x.puts(3);
        check.fine("most() behind two", x, x.most(), 0);
    }

    static void promise27_noTable() {
        CoinsLaid x = new CoinsLaid();
        check.refused("most()", x, x.most(), 1);
    }

    // ---- Promise 28: lot

    static void promise28_noneIfOver() {
        lot(OVER, 0);
        lot(NO_LAYS, 0);
        lot(row(4, "piece p coin second"), 0);
    }

    static void promise28_inMillionths() {
        lot(row(1, "piece p coin"), 1000000);
        lot(row(5, "piece p block 2,1"), 2000000);
    }

    static void promise28_eachIsAsLikely() {
        // the block in the middle leaves none, else one more: (2 + 1 + 2) / 3
        lot(row(4, "piece p block 2,1"), 1666666);
        lot("table loses apart;board a wide 3 high 1;piece p coin", 1666666);
        // two pieces on the same squares are two ways
        lot(row(3, "piece p coin;piece q coin;piece r block 3,1"), (6 * 3000000 + 1000000) / 7);
    }

    static void promise28_downwardsEachTime() {
        // 2 squares: 1,666,666; 3: 2,466,666; 1 and 2: 2,666,666; downwards at last alone it were 3,228,571
        lot(row(4, "piece p coin;piece q block 2,1"), 3228570);
        lot(row(6, "piece p block 2,1"), (2 * 2666666 + 2 * 2000000 + 3000000) / 5);
    }

    static void promise28_byTurnsWhatMayBe() {
        lot(row(4, "piece p coin first"), 1000000);
        lot(row(3, "piece p block 2,1 first;piece q coin second"), 2000000);
        // behind a block at an edge second has 5 lays, 12 / 5 on the mean, behind one further in 4, 9 / 4
        lot(row(5, "piece p block 2,1;piece q coin second"), 2325000);
    }

    static void promise28_fourteenAtMost() {
        lot(FULL, 14000000);
    }

    static void promise28_theLawIsNoMatter() {
        lot("table wins;board a wide 4 high 1;piece p block 2,1", 1666666);
    }

    static void promise28_fromNowOn() {
        CoinsLaid x = check.on(row(6, "piece p block 2,1"));
        x.puts(0);
        check.fine("lot() behind a lay", x, x.lot(), 1666666);
    }

    static void promise28_noTable() {
        CoinsLaid x = new CoinsLaid();
        check.refused("lot()", x, x.lot(), 1);
    }
}
