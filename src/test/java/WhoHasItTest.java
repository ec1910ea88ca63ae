/** Promises 14 to 25, with terms II and III: who has it, by what, how soon; heaps, across, the elbow. */
public final class WhoHasItTest {
    private static final Check check = new Check("WhoHasItTest");
    private static final String FULL = "table loses;board a wide 7 high 2;piece p coin";
    private static final String NO_LAYS = "board a wide 2 high 2;piece p block 3,3";
    /** Everyone's p: 0 to 2 on a, 3 and 4 on b; second's q: 5 and 6 on a, 7 on b. */
    private static final String SECONDS = "table loses;board a wide 3 high 1;board b wide 2 high 1;piece p coin;"
            + "piece q block 2,1 second";
    private static final String THREE = "table loses;board a wide 4 high 1;board b wide 6 high 1;board c wide 2 high 2;"
            + "piece p block 2,1";
    /** First's block lies on 0 to 2, a jug on 3; second's coin has room on 4 alone. */
    private static final String SECOND_IS_NEXT = "table loses;board a wide 5 high 1;jug a 3,0;piece p block 3,1 first;"
            + "piece q coin second;lay 0";
    /** Of three squares left: behind second's block first lays last by his own coin, behind a coin second does. */
    private static final String FIRST_ANSWERS = "table loses;board a wide 4 high 1;piece r block 2,1 second;"
            + "piece p coin first;piece q coin second;lay 3";
    /** Sizes of rows of 0, 1, .. squares, two side by side taken. */
    private static final int[] DAWSON = {0, 0, 1, 1, 2, 0, 3, 1, 1};

    public static void main(String[] args) throws Exception {
        check.runAll(WhoHasItTest.class);
    }

    private static String row(String law, int wide, String pieces) {
        return "table " + law + ";board a wide " + wide + " high 1;" + pieces;
    }

    // ---- Promise 14: over

    static void promise14_noneMayBe() {
        CoinsLaid x = check.on(row("loses", 2, "piece p coin"));
        check.fine("over()", x, x.over(), 0);
        x.puts(0);
        check.fine("over() of one left", x, x.over(), 0);
        x.puts(1);
        check.fine("over() of none left", x, x.over(), 1);
        x.takes();
        check.fine("over() of one taken up", x, x.over(), 0);
    }

    static void promise14_noneForWhoIsNextThoughTheOtherOneCould() {
        CoinsLaid own = check.on(row("loses", 2, "piece p coin first"));
        own.puts(0);
        check.fine("over()", own, own.over(), 1);
        CoinsLaid second = check.on(row("wins", 2, "piece p coin second"));
        check.fine("over() at first", second, second.over(), 1);
    }

    static void promise14_thereIsRoomThoughOnlyForSmallerPieces() {
        CoinsLaid x = check.on(row("loses", 3, "piece p block 3,1;piece q coin;lay 2"));
        check.fine("over()", x, x.over(), 0);
    }

    static void promise14_noLaysAtAll() {
        CoinsLaid x = check.on("table loses;" + NO_LAYS);
        check.fine("over()", x, x.over(), 1);
    }

    static void promise14_noTable() {
        CoinsLaid x = new CoinsLaid();
        check.refused("over()", x, x.over(), 1);
    }

    // ---- Promise 15: has

    static void promise15_noRoomLoses() {
        CoinsLaid x = check.on(row("loses", 1, "piece p coin;lay 0"));
        check.fine("has()", x, x.has(), 0);
        CoinsLaid none = check.on("table loses;" + NO_LAYS);
        check.fine("has() of no lays", none, none.has(), 0);
    }

    static void promise15_noRoomWins() {
        CoinsLaid x = check.on(row("wins", 1, "piece p coin;lay 0"));
        check.fine("has()", x, x.has(), 1);
        CoinsLaid none = check.on("table wins;" + NO_LAYS);
        check.fine("has() of no lays", none, none.has(), 1);
    }

    static void promise15_rowsOfBlocks() {
        for (int n = 1; n <= 8; n++) {
            CoinsLaid x = check.on(row("loses", n, "piece p block 2,1"));
            check.fine("has() of a row of " + n, x, x.has(), DAWSON[n] == 0 ? 0 : 1);
        }
    }

    static void promise15_ofCoinsTheirNumberCounts() {
        for (int n = 1; n <= 8; n++) {
            check.due("has() of " + n, check.on(row("loses", n, "piece p coin")).has(), n & 1);
            check.due("has() of " + n + ", wins", check.on(row("wins", n, "piece p coin")).has(), 1 - (n & 1));
        }
        CoinsLaid full = check.on(FULL);
        check.due("has() of 14", full.has(), 0);
        full.puts(13);
        check.due("has() of 13", full.has(), 1);
    }

    static void promise15_onesOwn() {
        CoinsLaid each = check.on(row("loses", 2, "piece b block 1,1 second;piece c coin first"));
        check.due("has(): a coin each", each.has(), 0);
        CoinsLaid spoils = check.on(row("loses", 3, "piece b block 2,1 second;piece c coin first"));
        check.due("has(): the coin in the middle spoils the block", spoils.has(), 1);
        CoinsLaid first = check.on(row("loses", 4, "piece c coin first"));
        check.due("has() of first, who has more", first.has(), 1);
        first.puts(0);
        check.due("has() of second, who has none", first.has(), 0);
    }

    static void promise15_apart() {
        // the middle of three, or one of both ends
        CoinsLaid x = check.on("table loses apart;board a wide 3 high 1;piece p coin");
        check.due("has()", x.has(), 1);
        CoinsLaid two = check.on("table loses apart;board a wide 2 high 2;piece p coin");
        check.due("has() of two by two", two.has(), 0);
        CoinsLaid wins = check.on("table wins apart;board a wide 2 high 2;piece p coin");
        check.due("has() of two by two, wins", wins.has(), 1);
    }

    static void promise15_noTable() {
        CoinsLaid x = new CoinsLaid();
        check.refused("has()", x, x.has(), 1);
    }

    // ---- Promise 16: best

    static void promise16_theFirstOfSome() {
        CoinsLaid x = check.on(row("loses", 4, "piece p block 2,1"));
        check.fine("best() in the middle", x, x.best(), 1);
        CoinsLaid many = check.on(row("loses", 3, "piece p coin"));
        check.fine("best() of three coins", many, many.best(), 0);
        CoinsLaid last = check.on(row("loses", 2, "piece p coin;piece q coin;piece r block 2,1"));
        check.fine("best(), the last lay", last, last.best(), 4);
    }

    static void promise16_noneIfHeHasItNot() {
        CoinsLaid x = check.on(row("loses", 5, "piece p block 2,1"));
        check.fine("best()", x, x.best(), -2);
    }

    static void promise16_noneIfOver() {
        CoinsLaid wins = check.on(row("wins", 1, "piece p coin;lay 0"));
        check.fine("best() though he has it", wins, wins.best(), -2);
        check.due("has()", wins.has(), 1);
        CoinsLaid loses = check.on(row("loses", 1, "piece p coin;lay 0"));
        check.fine("best() if lost", loses, loses.best(), -2);
    }

    static void promise16_ofHisOwnAlone() {
        CoinsLaid x = check.on(row("loses", 3, "piece b block 2,1 second;piece c coin first"));
        check.fine("best()", x, x.best(), x.layOf(1, 0, 1, 0, 0));
    }

    static void promise16_apart() {
        // of 5 the one in the middle leaves one at each side; of 4 there is none
        CoinsLaid five = check.on("table loses apart;board a wide 5 high 1;piece p coin");
        check.fine("best() of five", five, five.best(), 2);
        CoinsLaid four = check.on("table loses apart;board a wide 4 high 1;piece p coin");
        check.fine("best() of four", four, four.best(), -2);
    }

    static void promise16_firstsOwnAnswerCounts() {
        CoinsLaid x = check.on(FIRST_ANSWERS);
        check.fine("best()", x, x.best(), 8);
    }

    static void promise16_ofSecondWhoIsNext() {
        CoinsLaid x = check.on(SECOND_IS_NEXT);
        check.due("has()", x.has(), 1);
        check.fine("best()", x, x.best(), 4);
        CoinsLaid own = check.on(row("loses", 4, "piece p coin first;piece q coin second;lay 0"));
        check.fine("best() of his own coins", own, own.best(), 5);
    }

    static void promise16_noTable() {
        CoinsLaid x = new CoinsLaid();
        check.refused("best()", x, x.best(), 1);
    }

    // ---- Promise 17: good

    static void promise17_howManySuch() {
        CoinsLaid x = check.on(row("loses", 4, "piece p block 2,1"));
        check.fine("good() of one", x, x.good(), 1);
        CoinsLaid all = check.on("table loses;board a wide 7 high 2;jug a 6,1;piece p coin");
        check.fine("good() of all", all, all.good(), 13);
    }

    static void promise17_noneIfHeHasItNot() {
        CoinsLaid x = check.on(row("loses", 5, "piece p block 2,1"));
        check.fine("good()", x, x.good(), 0);
    }

    static void promise17_noneIfOver() {
        CoinsLaid wins = check.on(row("wins", 1, "piece p coin;lay 0"));
        check.fine("good() though he has it", wins, wins.good(), 0);
        CoinsLaid loses = check.on(row("loses", 1, "piece p coin;lay 0"));
        check.fine("good() if lost", loses, loses.good(), 0);
    }

    static void promise17_apart() {
        CoinsLaid five = check.on("table loses apart;board a wide 5 high 1;piece p coin");
        check.fine("good() of five", five, five.good(), 1);
        CoinsLaid four = check.on("table loses apart;board a wide 4 high 1;piece p coin");
        check.fine("good() of four", four, four.good(), 0);
    }

    static void promise17_firstsOwnAnswerCounts() {
        CoinsLaid x = check.on(FIRST_ANSWERS);
        check.fine("good()", x, x.good(), 3);
    }

    static void promise17_ofSecondWhoIsNext() {
        CoinsLaid x = check.on(SECOND_IS_NEXT);
        check.fine("good()", x, x.good(), 1);
        CoinsLaid two = check.on(row("loses", 5, "piece p block 3,1 first;piece q coin second;lay 0"));
        check.fine("good() of two", two, two.good(), 2);
        CoinsLaid six = check.on(row("loses", 4, "piece p coin first;piece q coin second;piece r coin second;lay 0"));
        check.fine("good() of two pieces on three squares", six, six.good(), 6);
    }

    static void promise17_noTable() {
        CoinsLaid x = new CoinsLaid();
        check.refused("good()", x, x.good(), 1);
    }

    // ---- Promise 18: soonest

    static void promise18_noLaysIfOver() {
        CoinsLaid loses = check.on(row("loses", 1, "piece p coin;lay 0"));
        check.fine("soonest() if lost", loses, loses.soonest(), 0);
        CoinsLaid wins = check.on("table wins;" + NO_LAYS);
        check.fine("soonest() if won", wins, wins.soonest(), 0);
    }

    static void promise18_theFewestIfHeHasIt() {
        // at once by the block, though coins would win later
        CoinsLaid at = check.on(row("loses", 3, "piece p coin;piece q block 3,1"));
        check.fine("soonest() at once", at, at.soonest(), 1);
        CoinsLaid later = check.on(row("loses", 3, "piece q block 3,1;piece p coin"));
        check.fine("soonest() at once, by the first lay", later, later.soonest(), 1);
        CoinsLaid seven = check.on(row("loses", 7, "piece p block 2,1"));
        check.fine("soonest() of a row of 7", seven, seven.soonest(), 3);
    }

    /** All squares get full: of 5 first lays last, of 8 second; a block of 3 makes it two lays shorter. */
    private static void soonest(String boards, String block, int has, int due) {
        CoinsLaid x = check.on("table loses;board a wide 4 high 1;" + boards + "piece p coin;piece q block 3,1 " + block);
        check.due("has()", x.has(), has);
        check.fine("soonest() with the block of " + block, x, x.soonest(), due);
    }

    static void promise18_aLongerWayToLoseIsNoMatter() {
        // by the block in the middle he has it; behind the two others one lay more follows
        CoinsLaid x = check.on(row("loses", 4, "piece p block 2,1"));
        check.fine("soonest() of a row of 4", x, x.soonest(), 1);
    }

    static void promise18_heMakesItShortIfHeHasIt() {
        soonest("board b wide 1 high 1;", "first", 1, 3);
    }

    static void promise18_theOtherOneThenMakesItLong() {
        soonest("board b wide 1 high 1;", "second", 1, 5);
    }

    static void promise18_heMakesItLongIfHeHasItNot() {
        soonest("board b wide 4 high 1;", "first", 0, 8);
        // a block is answered by a coin, a coin by a block, but for one in the middle
        CoinsLaid x = check.on(row("loses", 4, "piece p coin;piece q block 3,1"));
        check.due("has()", x.has(), 0);
        check.fine("soonest() with a coin in the middle", x, x.soonest(), 4);
    }

    static void promise18_theOtherOneThenMakesItShort() {
        // first spoils the blocks on one board, second lays one on the other
        soonest("board b wide 4 high 1;", "second", 0, 6);
        CoinsLaid five = check.on(row("loses", 5, "piece p block 2,1"));
        check.fine("soonest() of a row of 5", five, five.soonest(), 2);
    }

    static void promise18_asNoRoomWins() {
        CoinsLaid x = check.on(row("wins", 2, "piece p coin"));
        check.due("has()", x.has(), 1);
        check.fine("soonest()", x, x.soonest(), 2);
        // two or one and one are left behind each lay: he who is next there leaves one
        CoinsLaid four = check.on(row("wins", 4, "piece p coin;piece q block 2,1"));
        check.due("has() of four", four.has(), 0);
        check.fine("soonest() of four", four, four.soonest(), 3);
    }

    static void promise18_fourteenAtMost() {
        CoinsLaid x = check.on(FULL);
        check.fine("soonest()", x, x.soonest(), 14);
    }

    static void promise18_noTable() {
        CoinsLaid x = new CoinsLaid();
        check.refused("soonest()", x, x.soonest(), 1);
    }

    // ---- Promise 19: ways

    static void promise19_oneIfOver() {
        check.due("ways() of a full board", check.on(row("wins", 1, "piece p coin;lay 0")).ways(), 1);
        CoinsLaid x = check.on("table loses;" + NO_LAYS);
        check.fine("ways() of no lays", x, x.ways(), 1);
    }

    static void promise19_rowsOfLaysTillOver() {
        CoinsLaid x = check.on(row("loses", 4, "piece p coin"));
        check.fine("ways() of 4 coins", x, x.ways(), 24);
        check.due("ways() of two sorts", check.on(row("loses", 3, "piece p coin;piece q coin")).ways(), 48);
        check.due("ways() of blocks", check.on(row("loses", 5, "piece p block 2,1")).ways(), 2 + 1 + 1 + 2);
        check.due("ways() of one's own", check.on(row("loses", 4, "piece p coin first")).ways(), 4);
    }

    static void promise19_fromNowOn() {
        CoinsLaid x = check.on(row("loses", 4, "piece p coin;lay 2"));
        check.fine("ways()", x, x.ways(), 6);
        x.puts(0);
        check.fine("ways() behind a lay", x, x.ways(), 2);
    }

    static void promise19_aBillionBillionsAtMost() {
        String three = "table wins;board a wide 7 high 2;piece p coin;piece q coin;piece r coin";
        long below = 87178291200L * 4782969L;
        check.due("14! times 3 to the 14th is below", check.on(three).ways(), below);
        // 14! times 3 to the 7th times 4 to the 7th: above, though a long would hold it
        check.due("with first's coin", check.on(three + ";piece s coin first").ways(), 1000000000000000000L);
        // 14! times 4 to the 14th: a long would not hold it
        CoinsLaid four = check.on(three + ";piece s coin");
        check.fine("with a fourth coin", four, four.ways(), 1000000000000000000L);
        four.puts(0);
        check.due("13! times 4 to the 13th is below", four.ways(), 6227020800L * 67108864L);
    }

    static void promise19_noTable() {
        CoinsLaid x = new CoinsLaid();
        check.refused("ways()", x, x.ways(), 1);
    }

    // ---- Promise 20: heap

    static void promise20_rowsOfBlocks() {
        for (int n = 1; n <= 8; n++) {
            CoinsLaid x = check.on(row("loses", n, "piece p block 2,1"));
            check.fine("heap(-1) of " + n, x, x.heap(-1), DAWSON[n]);
            check.fine("heap(0) of " + n, x, x.heap(0), DAWSON[n]);
        }
    }

    static void promise20_zeroIfNothingMayBe() {
        CoinsLaid none = check.on("table loses;" + NO_LAYS);
        check.fine("heap(-1) of no lays", none, none.heap(-1), 0);
        check.fine("heap(0) of no lays", none, none.heap(0), 0);
        CoinsLaid over = check.on(row("loses", 1, "piece p coin;lay 0"));
        check.fine("heap(-1) if over", over, over.heap(-1), 0);
    }

    static void promise20_oneBoardAsIfAlone() {
        CoinsLaid x = check.on(THREE);
        check.fine("heap(0)", x, x.heap(0), 2);
        check.fine("heap(1)", x, x.heap(1), 3);
        check.fine("heap(2)", x, x.heap(2), 0);
        check.fine("heap(-1)", x, x.heap(-1), 1);
        x.puts(0);
        check.fine("heap(0) behind a lay", x, x.heap(0), 1);
        check.fine("heap(1) behind it", x, x.heap(1), 3);
        check.fine("heap(-1) behind it", x, x.heap(-1), 2);
    }

    static void promise20_theFirstBoardsSquaresAreNoMatterOfAnother() {
        CoinsLaid x = check.on("table loses;board a wide 1 high 1;board b wide 2 high 1;board c wide 3 high 1;piece p coin");
        check.fine("heap(0)", x, x.heap(0), 1);
        check.fine("heap(1)", x, x.heap(1), 0);
        check.fine("heap(2)", x, x.heap(2), 1);
        check.fine("heap(-1)", x, x.heap(-1), 0);
    }

    static void promise20_theBoardTooSmallOrTooLarge() {
        CoinsLaid x = check.on(THREE);
        check.refusedOutside("heap(board)", x, -1, 2, 1, board -> x.heap(board));
    }

    static void promise20_noHeapIfNoRoomWins() {
        CoinsLaid x = check.on(row("wins", 3, "piece p coin"));
        check.refused("heap(0)", x, x.heap(0), 5);
        check.refused("heap(-1)", x, x.heap(-1), 5);
    }

    static void promise20_noHeapWithAPieceOfOnesOwn() {
        CoinsLaid second = check.on(row("loses", 3, "piece p coin;piece q block 4,4 second"));
        check.refused("heap(0)", second, second.heap(0), 5);
        check.refused("heap(-1)", second, second.heap(-1), 5);
        CoinsLaid first = check.on(row("loses", 3, "piece p coin first;piece q coin"));
        check.refused("heap(-1) of first's", first, first.heap(-1), 5);
    }

    static void promise20_noSuchBoardComesAheadOfNoHeap() {
        CoinsLaid x = check.on(row("wins", 3, "piece p coin"));
        check.refused("heap(1)", x, x.heap(1), 1);
        check.refused("heap(-2)", x, x.heap(-2), 1);
    }

    static void promise20_apart() {
        CoinsLaid x = check.on("table loses apart;board a wide 5 high 1;board b wide 1 high 1;piece p coin");
        // a square more, and each coin takes the one at its right with it
        check.due("heap(0)", x.heap(0), x.size(6, 2));
        check.due("heap(1)", x.heap(1), 1);
        check.due("heap(-1)", x.heap(-1), x.size(6, 2) ^ 1);
    }

    static void promise20_fourteenSquares() {
        CoinsLaid x = check.on(FULL);
        check.due("heap(-1)", x.heap(-1), 0);
        x.puts(13);
        check.due("heap(-1) of 13", x.heap(-1), 1);
        check.due("heap(0) of 13", x.heap(0), 1);
    }

    static void promise20_noTable() {
        CoinsLaid x = new CoinsLaid();
        check.refused("heap(-1)", x, x.heap(-1), 1);
        check.refused("heap(0)", x, x.heap(0), 1);
    }

    // ---- Promise 21: byAcross

    private static void across(String text, int due) {
        CoinsLaid x = check.on(text);
        check.fine("byAcross() of " + text, x, x.byAcross(), due);
        if (due != 0) {
            check.due("has() of " + text, x.has(), due & 1);
        }
    }

    static void promise21_twoIfEachHasOneAcross() {
        across(row("loses", 4, "piece p coin"), 2);
        across(row("loses", 3, "jug a 1,0;piece p coin"), 2);
        across("table loses;board a wide 2 high 2;board b wide 4 high 1;piece p coin;piece q block 2,1;jug b 1,0;jug b 2,0", 2);
    }

    static void promise21_oneByTheMiddle() {
        across(row("loses", 3, "piece p coin"), 1);
        across(row("loses", 6, "piece p block 2,1"), 1);
        across("table loses;board a wide 3 high 3;piece p coin", 1);
        // a larger one that takes the middle, too
        across(row("loses", 4, "piece q block 4,1;piece p coin"), 1);
        across(row("loses", 3, "piece p coin;piece q block 3,1"), 1);
    }

    static void promise21_oneIfOfTwoMiddlesOneIsTaken() {
        across("table loses;board a wide 3 high 1;board b wide 1 high 1;piece p coin;lay 3", 1);
    }

    static void promise21_zeroIfTheMiddleMayNotBe() {
        // two stand at both sides, two in the middle share a square, one across them has no room
        across("table loses;board a wide 3 high 3;piece p block 1,2;piece q block 3,1;lay 0;lay 5", 0);
    }

    static void promise21_zeroIfTheMiddleIsNotEnough() {
        across("table loses;board a wide 3 high 1;board b wide 3 high 1;piece p coin", 0);
        across("table loses;board a wide 1 high 1;board b wide 1 high 1;piece p coin", 0);
    }

    static void promise21_zeroIfThoseAcrossShareASquare() {
        across(row("loses", 5, "piece p block 2,1"), 0);
    }

    static void promise21_zeroIfThoseAcrossLieBesideEachOther() {
        across("table loses apart;board a wide 4 high 1;piece p coin", 0);
        // they touch by their corners alone
        across("table loses apart;board a wide 2 high 2;jug a 0,0;jug a 1,1;piece p coin", 2);
        across("table loses apart;board a wide 5 high 1;jug a 1,0;jug a 3,0;piece p coin", 1);
        across("table loses apart;board a wide 5 high 1;piece p coin", 1);
        // without the law they may
        across("table loses;board a wide 4 high 1;piece p coin", 2);
    }

    static void promise21_zeroIfThereIsNoneAcross() {
        across("table loses;board a wide 4 high 3;piece p corner 2,2", 0);
    }

    static void promise21_zeroIfNoRoomWins() {
        across(row("wins", 4, "piece p coin"), 0);
    }

    static void promise21_zeroWithAPieceOfOnesOwn() {
        across(row("loses", 4, "piece p coin first"), 0);
        across(row("loses", 4, "piece p coin;piece q coin second"), 0);
    }

    static void promise21_zeroIfABoardIsNotHalf() {
        across(row("loses", 3, "jug a 0,0;piece p coin"), 0);
        across(row("loses", 4, "piece p coin;lay 1"), 0);
        across("table loses;board a wide 4 high 1;board b wide 2 high 1;jug b 0,0;piece p block 2,1", 0);
        // behind the other one it is
        across(row("loses", 4, "piece p coin;lay 1;lay 2"), 2);
    }

    static void promise21_whatMayBeNowCounts() {
        across(row("loses", 5, "piece p block 2,1;piece q coin;lay 6"), 2);
        across(row("loses", 6, "piece p block 2,1;lay 2"), 2);
    }

    static void promise21_twoIfOver() {
        across("table loses;" + NO_LAYS, 2);
        across(row("loses", 2, "piece p coin;lay 0;lay 1"), 2);
    }

    static void promise21_noTable() {
        CoinsLaid x = new CoinsLaid();
        check.refused("byAcross()", x, x.byAcross(), 1);
    }

    // ---- Promise 22: half

    static void promise22_itsJugs() {
        CoinsLaid x = check.on("table wins;board a wide 3 high 2;board b wide 2 high 1;jug b 0,0;board c wide 2 high 1;"
                + "jug c 0,0;jug c 1,0;piece p coin");
        check.fine("half(0) without", x, x.half(0), 1);
        check.fine("half(1) with one", x, x.half(1), 0);
        check.fine("half(2) with two", x, x.half(2), 1);
    }

    static void promise22_whatLies() {
        CoinsLaid x = check.on("table wins;board a wide 3 high 2;board b wide 1 high 1;piece p coin");
        x.puts(x.layOf(0, 0, 2, 0, 0));
        check.fine("half(0) behind a lay", x, x.half(0), 0);
        x.puts(x.layOf(0, 0, 2, 1, 0));
        check.fine("half(0) turned over, not round", x, x.half(0), 0);
        x.takes();
        x.puts(x.layOf(0, 0, 0, 0, 0));
        check.fine("half(0) as in a mirror", x, x.half(0), 0);
        x.takes();
        x.puts(x.layOf(0, 0, 0, 1, 0));
        check.fine("half(0) turned half round", x, x.half(0), 1);
        x.puts(x.layOf(0, 1, 0, 0, 0));
        check.fine("half(1) of one square", x, x.half(1), 1);
    }

    static void promise22_aHighBoard() {
        CoinsLaid x = check.on("table loses;board a wide 1 high 4;board b wide 2 high 3;jug a 0,0;jug a 0,3;jug b 1,2;"
                + "piece p coin");
        check.fine("half(0)", x, x.half(0), 1);
        check.fine("half(1)", x, x.half(1), 0);
        x.puts(x.layOf(0, 0, 0, 2, 0));
        check.fine("half(0) behind a lay", x, x.half(0), 0);
    }

    static void promise22_aJugIsNotWhatLies() {
        CoinsLaid x = check.on("table loses;board a wide 2 high 1;jug a 0,0;piece p coin;lay 0");
        check.fine("half(0)", x, x.half(0), 0);
    }

    static void promise22_othersBoardsAreNoMatter() {
        CoinsLaid x = check.on("table loses;board a wide 2 high 1;board b wide 2 high 1;jug a 0,0;piece p coin;lay 1");
        check.fine("half(0)", x, x.half(0), 0);
        check.fine("half(1)", x, x.half(1), 0);
        x.takes();
        check.fine("half(1) without a lay", x, x.half(1), 1);
    }

    static void promise22_theBoardTooSmallOrTooLarge() {
        CoinsLaid x = check.on(THREE);
        check.refusedOutside("half(board)", x, 0, 2, 1, board -> x.half(board));
        CoinsLaid one = check.on(FULL);
        check.refused("half(1) of one board", one, one.half(1), 1);
    }

    static void promise22_noTable() {
        CoinsLaid x = new CoinsLaid();
        check.refused("half(0)", x, x.half(0), 1);
    }

    // ---- Promise 23: spoils

    static void promise23_thatOneAmongThem() {
        CoinsLaid x = check.on(FULL);
        check.fine("spoils(13)", x, x.spoils(13), 1);
    }

    static void promise23_ofEitherOnes() {
        CoinsLaid x = check.on(SECONDS);
        check.fine("spoils(1)", x, x.spoils(1), 3);
        check.fine("spoils(0)", x, x.spoils(0), 2);
        check.fine("spoils(3)", x, x.spoils(3), 2);
        x.puts(0);
        check.fine("spoils of second's then", x, x.spoils(6), 3);
        CoinsLaid first = check.on(row("loses", 2, "piece p coin first;piece q coin;lay 0"));
        check.fine("spoils with first's, while second is next", first, first.spoils(3), 2);
    }

    static void promise23_onlyThoseThatMayBeNow() {
        CoinsLaid x = check.on(row("loses", 5, "piece p block 2,1;lay 0"));
        // 1 may not be already; 2 and 3 spoil each other
        check.fine("spoils(2)", x, x.spoils(2), 2);
    }

    static void promise23_apartThoseBeside() {
        CoinsLaid x = check.on("table loses apart;board a wide 3 high 3;piece p coin");
        check.fine("spoils(4) in the middle", x, x.spoils(4), 5);
        check.fine("spoils(0) at the corner", x, x.spoils(0), 3);
    }

    static void promise23_allAtOnce() {
        CoinsLaid x = check.on(row("loses", 4, "piece p coin;piece q block 4,1"));
        check.fine("spoils(4)", x, x.spoils(4), 5);
    }

    static void promise23_theLayTooSmallOrTooLarge() {
        CoinsLaid x = check.on(SECONDS);
        check.refusedOutside("spoils(l)", x, 0, 7, 1, l -> x.spoils(l));
    }

    static void promise23_itMayNotBe() {
        CoinsLaid x = check.on(SECONDS);
        check.refused("spoils of second's", x, x.spoils(5), 5);
        x.puts(0);
        check.refused("spoils of one that lies", x, x.spoils(0), 5);
        check.refused("spoils of one that overlaps", x, x.spoils(5), 5);
    }

    static void promise23_noLaysAndNoTable() {
        CoinsLaid none = check.on("table loses;" + NO_LAYS);
        check.refused("spoils(0) of none", none, none.spoils(0), 1);
        CoinsLaid x = new CoinsLaid();
        check.refused("spoils(0)", x, x.spoils(0), 1);
    }

    // ---- Promise 24: open

    static void promise24_ofEitherOnes() {
        CoinsLaid x = check.on(SECONDS);
        check.fine("open(0)", x, x.open(0), 2);
        check.fine("open(1)", x, x.open(1), 3);
        check.fine("open(4), the last", x, x.open(4), 2);
        CoinsLaid first = check.on(row("loses", 2, "piece p coin first;piece q coin;lay 0"));
        check.fine("open(1) while second is next", first, first.open(1), 2);
    }

    static void promise24_noneOfATakenSquare() {
        CoinsLaid x = check.on(SECONDS + ";lay 0");
        check.fine("open(0)", x, x.open(0), 0);
        check.fine("open(1) beside it", x, x.open(1), 2);
    }

    static void promise24_noneOfAJug() {
        CoinsLaid x = check.on(row("loses", 2, "jug a 1,0;piece p coin"));
        check.fine("open(1)", x, x.open(1), 0);
        check.fine("open(0)", x, x.open(0), 1);
    }

    static void promise24_apartNoneBeside() {
        CoinsLaid x = check.on("table loses apart;board a wide 3 high 1;piece p coin;lay 0");
        check.fine("open(1)", x, x.open(1), 0);
        check.fine("open(2)", x, x.open(2), 1);
    }

    static void promise24_theSquareTooSmallOrTooLarge() {
        CoinsLaid x = check.on(SECONDS);
        check.refusedOutside("open(square)", x, 0, 4, 1, square -> x.open(square));
        CoinsLaid full = check.on(FULL);
        check.fine("open(13)", full, full.open(13), 1);
        check.refusedOutside("open(square) of 14", full, 0, 13, 1, square -> full.open(square));
        CoinsLaid one = check.on(row("loses", 1, "piece p coin"));
        check.refusedOutside("open(square) of 1", one, 0, 0, 1, square -> one.open(square));
        // a shift would come round
        check.refused("open(32)", one, one.open(32), 1);
    }

    static void promise24_noTable() {
        CoinsLaid x = new CoinsLaid();
        check.refused("open(0)", x, x.open(0), 1);
    }

    // ---- Promise 25: elbow

    private static void elbow(String text, int due) {
        CoinsLaid x = check.on(text);
        check.fine("elbow() of " + text, x, x.elbow(), due);
    }

    static void promise25_theFirstThatTurnsIt() {
        elbow(row("loses", 3, "piece p coin"), 0);
        elbow(row("loses", 5, "piece p block 2,1"), 0);
        elbow(row("loses", 3, "piece p block 2,1"), 1);
        // the two between the blocks
        elbow(row("loses", 6, "piece p block 2,1;lay 0;lay 4"), 2);
    }

    static void promise25_noneThatTurnsIt() {
        elbow(row("loses", 4, "piece p block 2,1"), -2);
    }

    static void promise25_notOnASquareThatIsTaken() {
        elbow(row("loses", 3, "piece p coin;lay 0"), 1);
    }

    static void promise25_notOnAJug() {
        elbow(row("loses", 3, "jug a 0,0;piece p coin;lay 0"), 2);
        // it would turn it there, too, as none might lie beside
        elbow("table loses apart;board a wide 2 high 1;jug a 0,0;piece p coin", 1);
    }

    static void promise25_theLastSquareAndNone() {
        elbow(row("loses", 2, "piece p coin;lay 0"), 1);
        elbow(row("loses", 1, "piece p coin;lay 0"), -2);
        elbow(row("loses", 2, "jug a 1,0;piece p coin;lay 0"), -2);
        CoinsLaid full = check.on(FULL);
        for (int l = 0; l < 13; l++) {
            full.puts(l);
        }
        check.fine("elbow() on the 14th", full, full.elbow(), 13);
        full.puts(13);
        check.fine("elbow() on a full board", full, full.elbow(), -2);
    }

    static void promise25_ofNeitherOnesAndNoLay() {
        // who is next stays: first may still lay the other coin, second none
        elbow(row("loses", 2, "piece p coin first"), -2);
        elbow(row("loses", 1, "piece p coin first"), 0);
    }

    static void promise25_ofSecondWhoIsNext() {
        elbow(SECOND_IS_NEXT, 4);
        // one of both squares is enough for second, and first has no room on either
        elbow(row("loses", 5, "piece p block 3,1 first;piece q coin second;lay 0"), -2);
    }

    static void promise25_apartNoneLiesBesideIt() {
        elbow("table loses apart;board a wide 3 high 1;piece p coin", 1);
        elbow("table loses apart;board a wide 1 high 2;piece p coin", 0);
    }

    static void promise25_itMayStandBesideAPiece() {
        elbow("table loses apart;board a wide 3 high 1;piece p coin;lay 0", 1);
    }

    static void promise25_noRoomWins() {
        elbow(row("wins", 1, "piece p coin"), 0);
        elbow(row("wins", 2, "piece p coin"), 0);
    }

    static void promise25_ifOver() {
        elbow("table wins;" + NO_LAYS, -2);
        elbow("table loses;" + NO_LAYS, -2);
    }

    static void promise25_noTable() {
        CoinsLaid x = new CoinsLaid();
        check.refused("elbow()", x, x.elbow(), 1);
    }
}
