/** Promises 6 to 13, with term II: squares, shapes and lays, which may be, what is taken and what is dead. */
public final class LaysTest {
    private static final Check check = new Check("LaysTest");
    /** Squares of a: 0 1 2 / 3 4 5; of b: 6 7 / 8 and a jug at 9. */
    private static final String TWO = "table loses;board a wide 3 high 2;board b wide 2 high 2;jug b 1,1;"
            + "piece m block 2,1 turns;piece c coin second";
    /** Of TWO: piece, board, x, y, turns, squares of each lay. */
    private static final int[][] LAYS_OF_TWO = {
        {0, 0, 0, 0, 0, 3}, {0, 0, 0, 0, 1, 9}, {0, 0, 1, 0, 0, 6}, {0, 0, 1, 0, 1, 18}, {0, 0, 2, 0, 1, 36},
        {0, 0, 0, 1, 0, 24}, {0, 0, 1, 1, 0, 48}, {0, 1, 0, 0, 0, 192}, {0, 1, 0, 0, 1, 320},
        {1, 0, 0, 0, 0, 1}, {1, 0, 1, 0, 0, 2}, {1, 0, 2, 0, 0, 4}, {1, 0, 0, 1, 0, 8}, {1, 0, 1, 1, 0, 16},
        {1, 0, 2, 1, 0, 32}, {1, 1, 0, 0, 0, 64}, {1, 1, 1, 0, 0, 128}, {1, 1, 0, 1, 0, 256}};
    /** Lays of p: 0 to 7, of f: 8 to 15, of s: 16 to 23. */
    private static final String APART = "table loses apart;board a wide 3 high 2;board b wide 2 high 1;"
            + "piece p coin;piece f coin first;piece s coin second";
    private static final String NO_LAYS = "table loses;board a wide 2 high 2;piece m block 3,1";
    private static final String ONE = "table loses;board a wide 1 high 1;piece p coin";
    private static final String FULL = "table loses;board a wide 7 high 2;piece p coin";
    private static final String NINE = "table loses;board a wide 3 high 3;piece p ";
    private static final int MIN = Integer.MIN_VALUE;
    private static final int MAX = Integer.MAX_VALUE;

    public static void main(String[] args) throws Exception {
        check.runAll(LaysTest.class);
    }

    // ---- Promise 6: lay

    static void promise06_sixThingsOfEachLay() {
        CoinsLaid x = check.on(TWO);
        for (int l = 0; l < LAYS_OF_TWO.length; l++) {
            for (int what = 0; what < 6; what++) {
                check.fine("lay(" + l + ", " + what + ")", x, x.lay(l, what), LAYS_OF_TWO[l][what]);
            }
        }
    }

    static void promise06_theLayTooSmallOrTooLarge() {
        CoinsLaid x = check.on(TWO);
        check.refusedOutside("lay(l, 0)", x, 0, 17, 1, l -> x.lay(l, 0));
        check.refusedOutside("lay(l, 5)", x, 0, 17, 1, l -> x.lay(l, 5));
    }

    static void promise06_whatIsAskedTooSmallOrTooLarge() {
        CoinsLaid x = check.on(TWO);
        check.refusedOutside("lay(0, what)", x, 0, 5, 1, what -> x.lay(0, what));
        check.refusedOutside("lay(17, what)", x, 0, 5, 1, what -> x.lay(17, what));
    }

    static void promise06_noLaysAndNoTable() {
        CoinsLaid none = check.on(NO_LAYS);
        check.refused("lay(0, 0) of none", none, none.lay(0, 0), 1);
        CoinsLaid x = new CoinsLaid();
        check.refused("lay(0, 0)", x, x.lay(0, 0), 1);
    }

    static void promise06_theFirstAndTheLastSquareAsBits() {
        CoinsLaid x = check.on(FULL);
        check.fine("lay(0, 5)", x, x.lay(0, 5), 1);
        check.fine("lay(13, 5)", x, x.lay(13, 5), 1 << 13);
        CoinsLaid all = check.on("table loses;board a wide 4 high 3;piece p block 4,3");
        check.fine("lay(0, 5) of all squares", all, all.lay(0, 5), (1 << 12) - 1);
    }

    static void promise06_squaresAreNumberedOverAllBoards() {
        squares("table loses;board a wide 1 high 2;board b wide 2 high 1;board c wide 3 high 3;piece p block 1,2",
                3, 1 << 4 | 1 << 7, 1 << 5 | 1 << 8, 1 << 6 | 1 << 9, 1 << 7 | 1 << 10, 1 << 8 | 1 << 11, 1 << 9 | 1 << 12);
    }

    static void promise06_shapesOfCoins() {
        squares(NINE + "coin", 1, 2, 4, 8, 16, 32, 64, 128, 256);
        // turned it is like: one way alone
        squares(NINE + "coin turns", 1, 2, 4, 8, 16, 32, 64, 128, 256);
    }

    static void promise06_shapesOfBlocks() {
        squares(NINE + "block 3,2", 63, 504);
        squares(NINE + "block 1,3", 73, 146, 292);
        squares(NINE + "block 1,1 turns", 1, 2, 4, 8, 16, 32, 64, 128, 256);
        squares(NINE + "block 3,3 turns", 511);
    }

    static void promise06_blocksTurnedOnceAreUnlike() {
        squares(NINE + "block 3,1 turns", 7, 73, 146, 292, 56, 448);
        squares(NINE + "block 1,3 turns", 73, 7, 146, 292, 56, 448);
        CoinsLaid x = check.on(NINE + "block 3,1 turns");
        check.due("turns of the one that stands", x.lay(1, 4), 1);
        check.due("turns of the one that lies", x.lay(0, 4), 0);
    }

    static void promise06_shapesOfCorners() {
        // without the lower right square
        squares(NINE + "corner 3,3", 255);
        squares(NINE + "corner 3,2", 31, 248);
        squares(NINE + "corner 2,3", 91, 182);
        squares("table loses;board a wide 2 high 2;piece p corner 2,2", 7);
    }

    static void promise06_cornersTurnToTheRight() {
        // the square that is not there: lower right, lower left, upper left, upper right
        squares("table loses;board a wide 2 high 2;piece p corner 2,2 turns", 7, 11, 14, 13);
        squares(NINE + "corner 3,3 turns", 255, 447, 510, 507);
        squares(NINE + "corner 3,2 turns", 31, 155, 62, 217, 310, 434, 248, 496);
        squares(NINE + "corner 2,3 turns", 91, 55, 218, 59, 182, 436, 440, 472);
    }

    static void promise06_whollyOnOneBoard() {
        squares("table loses;board a wide 2 high 1;board b wide 2 high 1;piece p block 3,1 turns");
        squares("table loses;board a wide 2 high 1;board b wide 3 high 1;piece p block 3,1 turns", 28);
        squares("table loses;board a wide 1 high 4;board b wide 3 high 3;piece p block 4,1 turns", 15);
        squares("table loses;board a wide 8 high 1;piece p block 4,1 turns", 15, 30, 60, 120, 240);
        squares(NO_LAYS);
    }

    static void promise06_nowhereOnAJug() {
        squares(NINE + "block 3,2;jug a 1,0", 504);
        squares(NINE + "coin;jug a 0,0;jug a 2,2;jug a 1,1", 2, 4, 8, 32, 64, 128);
        // a jug where the corner is not: it lies round it
        squares("table loses;board a wide 2 high 2;jug a 1,1;piece p corner 2,2 turns", 7);
        squares("table loses;board a wide 2 high 2;jug a 0,0;piece p corner 2,2 turns", 14);
    }

    static void promise06_layingApartIsNoMatterOfWhatLaysThereAre() {
        squares("table wins apart;board a wide 2 high 1;jug a 0,0;piece p coin", 2);
    }

    static void promise06_numbersByPiecesThenBoards() {
        squares("table loses;board a wide 2 high 2;board b wide 2 high 2;piece p corner 2,2 turns;piece q block 2,2",
                7, 11, 14, 13, 7 << 4, 11 << 4, 14 << 4, 13 << 4, 15, 15 << 4);
    }

    private static void squares(String text, int... due) {
        CoinsLaid x = new CoinsLaid();
        check.due("table of " + text, Check.tell(x, text), due.length);
        for (int l = 0; l < due.length; l++) {
            check.due("lay(" + l + ", 5) of " + text, x.lay(l, 5), due[l]);
        }
    }

    static void promise06_whatLiesIsNoMatter() {
        CoinsLaid x = check.on(ONE + ";lay 0");
        check.fine("lay(0, 5)", x, x.lay(0, 5), 1);
    }

    // ---- Promise 7: layOf

    static void promise07_eachLayByItsPlace() {
        CoinsLaid x = check.on(TWO);
        for (int l = 0; l < LAYS_OF_TWO.length; l++) {
            int[] lay = LAYS_OF_TWO[l];
            check.fine("layOf of " + l, x, x.layOf(lay[0], lay[1], lay[2], lay[3], lay[4]), l);
        }
    }

    static void promise07_noneOverTheEdge() {
        CoinsLaid x = check.on(TWO);
        check.fine("over the right edge", x, x.layOf(0, 0, 2, 0, 0), -2);
        check.fine("over the lower edge", x, x.layOf(0, 0, 0, 1, 1), -2);
        check.fine("in the last row", x, x.layOf(0, 0, 1, 1, 0), 6);
        check.fine("in the last column", x, x.layOf(0, 0, 2, 0, 1), 4);
    }

    static void promise07_noneOffTheBoard() {
        CoinsLaid x = check.on(TWO);
        int[] off = {-1, 3, MIN, MAX};
        for (int far : off) {
            check.fine("layOf(1, 0, " + far + ", 0, 0)", x, x.layOf(1, 0, far, 0, 0), -2);
            check.fine("layOf(1, 0, 0, " + far + ", 0)", x, x.layOf(1, 0, 0, far, 0), -2);
            check.fine("layOf(1, 0, " + far + ", " + far + ", 3)", x, x.layOf(1, 0, far, far, 3), -2);
        }
        check.fine("below the last row", x, x.layOf(1, 0, 0, 2, 0), -2);
    }

    static void promise07_noneOnAJug() {
        CoinsLaid x = check.on(TWO);
        check.fine("a coin on a jug", x, x.layOf(1, 1, 1, 1, 0), -2);
        check.fine("a block on a jug", x, x.layOf(0, 1, 0, 1, 0), -2);
    }

    static void promise07_noneTurnedToALikeShape() {
        CoinsLaid x = check.on(TWO);
        check.fine("a block turned twice", x, x.layOf(0, 0, 0, 0, 2), -2);
        check.fine("a block turned three times", x, x.layOf(0, 0, 0, 0, 3), -2);
        check.fine("a coin turned", x, x.layOf(1, 0, 0, 0, 1), -2);
        CoinsLaid square = check.on(NINE + "block 2,2 turns");
        check.fine("a square block turned", square, square.layOf(0, 0, 0, 0, 1), -2);
    }

    static void promise07_noneTurnedThatDoesNotTurn() {
        CoinsLaid x = check.on(NINE + "corner 2,2");
        check.fine("not turned", x, x.layOf(0, 0, 1, 1, 0), 3);
        for (int turns = 1; turns <= 3; turns++) {
            check.fine("turned " + turns, x, x.layOf(0, 0, 1, 1, turns), -2);
        }
        CoinsLaid turned = check.on(NINE + "corner 2,2 turns");
        check.fine("one that turns", turned, turned.layOf(0, 0, 1, 1, 3), 15);
    }

    static void promise07_thePieceTooSmallOrTooLarge() {
        CoinsLaid x = check.on(TWO);
        check.refusedOutside("layOf(piece, ..)", x, 0, 1, 1, piece -> x.layOf(piece, 0, 0, 0, 0));
    }

    static void promise07_theBoardTooSmallOrTooLarge() {
        CoinsLaid x = check.on(TWO);
        check.refusedOutside("layOf(0, board, ..)", x, 0, 1, 1, board -> x.layOf(0, board, 0, 0, 0));
    }

    static void promise07_turnsTooSmallOrTooLarge() {
        CoinsLaid x = check.on(TWO);
        check.refusedOutside("layOf(.., turns)", x, 0, 3, 2, turns -> x.layOf(0, 0, 0, 0, turns));
        check.refusedOutside("layOf of no such place(.., turns)", x, 0, 3, 2, turns -> x.layOf(0, 0, -1, 9, turns));
    }

    static void promise07_whatThereIsNotComesAheadOfTurns() {
        CoinsLaid x = check.on(TWO);
        check.refused("layOf(2, .., 4)", x, x.layOf(2, 0, 0, 0, 4), 1);
        check.refused("layOf(.., 2, .., -1)", x, x.layOf(0, 2, 0, 0, -1), 1);
    }

    static void promise07_noTable() {
        CoinsLaid x = new CoinsLaid();
        check.refused("layOf", x, x.layOf(0, 0, 0, 0, 0), 1);
        check.refused("layOf(.., 4)", x, x.layOf(0, 0, 0, 0, 4), 1);
    }

    static void promise07_noLays() {
        CoinsLaid x = check.on(NO_LAYS);
        check.fine("layOf", x, x.layOf(0, 0, 0, 0, 0), -2);
    }

    // ---- Promise 8: may

    static void promise08_ifItsSquaresAreFree() {
        CoinsLaid x = check.on("table loses;board a wide 5 high 1;piece m block 2,1");
        check.fine("may(1)", x, x.may(1), 1);
        x.puts(1);
        int[] due = {0, 0, 0, 1};
        for (int l = 0; l < due.length; l++) {
            check.fine("may(" + l + ") behind one", x, x.may(l), due[l]);
        }
    }

    static void promise08_theLastSquare() {
        CoinsLaid x = check.on(FULL + ";lay 13");
        check.fine("may(13)", x, x.may(13), 0);
        check.fine("may(12)", x, x.may(12), 1);
    }

    static void promise08_anotherPieceTakesItToo() {
        CoinsLaid x = check.on("table loses;board a wide 2 high 1;piece p coin;piece q coin;lay 0");
        check.fine("may of the other piece there", x, x.may(2), 0);
        check.fine("may of the other piece beside", x, x.may(3), 1);
    }

    static void promise08_theyMayTouchUnlessApart() {
        CoinsLaid x = check.on("table loses;board a wide 3 high 1;piece p coin;lay 1");
        check.due("at the left", x.may(0), 1);
        check.due("at the right", x.may(2), 1);
    }

    static void promise08_apartNoneLiesBesideBySides() {
        CoinsLaid x = check.on("table loses apart;board a wide 3 high 3;piece p coin;lay 4");
        int[] due = {1, 0, 1, 0, 0, 0, 1, 0, 1};
        for (int l = 0; l < due.length; l++) {
            check.fine("may(" + l + ") round the middle", x, x.may(l), due[l]);
        }
    }

    static void promise08_apartTheEdgesDoNotMeet() {
        // the right end of a row and the left end of the next one
        CoinsLaid x = check.on(APART);
        x.puts(x.layOf(0, 0, 2, 0, 0));
        check.due("the next row", x.may(3), 1);
        check.due("below", x.may(5), 0);
        check.due("at the left", x.may(1), 0);
        x.undo();
        x.puts(x.layOf(0, 0, 0, 1, 0));
        check.due("the row above", x.may(2), 1);
        // the last square of a board and the first of the next one
        x.undo();
        x.puts(x.layOf(0, 0, 2, 1, 0));
        check.due("the next board", x.may(6), 1);
    }

    static void promise08_apartOfALargerPieceEachSquareCounts() {
        CoinsLaid x = check.on("table loses apart;board a wide 4 high 3;piece c corner 2,2;piece p coin;lay 0");
        // the corner lies on 0, 1, 4; over its missing square 5 they touch by sides
        int[] due = {0, 0, 0, 1, 0, 0, 1, 1, 0, 1, 1, 1};
        for (int s = 0; s < due.length; s++) {
            check.due("a coin on " + s, x.may(x.layOf(1, 0, s % 4, s / 4, 0)), due[s]);
        }
    }

    static void promise08_apartAJugIsNoPiece() {
        CoinsLaid x = check.on("table loses apart;board a wide 3 high 1;jug a 1,0;piece p coin;lay 0");
        check.due("behind the jug", x.may(1), 1);
    }

    static void promise08_onesOwnIfHeIsNext() {
        CoinsLaid x = check.on("table loses;board a wide 4 high 1;piece p coin;piece f coin first;piece s coin second");
        check.fine("first's at first", x, x.may(5), 1);
        check.fine("second's at first", x, x.may(9), 0);
        x.puts(0);
        check.fine("first's then", x, x.may(5), 0);
        check.fine("second's then", x, x.may(9), 1);
        check.fine("second's where one lies", x, x.may(8), 0);
        x.puts(9);
        check.fine("first's again", x, x.may(6), 1);
        check.fine("second's again", x, x.may(10), 0);
        check.fine("everyone's", x, x.may(2), 1);
    }

    static void promise08_theLayTooSmallOrTooLarge() {
        CoinsLaid x = check.on(TWO);
        check.refusedOutside("may(l)", x, 0, 17, 1, l -> x.may(l));
    }

    static void promise08_noLaysAndNoTable() {
        CoinsLaid none = check.on(NO_LAYS);
        check.refused("may(0) of none", none, none.may(0), 1);
        CoinsLaid x = new CoinsLaid();
        check.refused("may(0)", x, x.may(0), 1);
    }

    // ---- Promise 9: lays

    static void promise09_howManyMayBe() {
        CoinsLaid x = check.on(TWO);
        check.fine("lays()", x, x.lays(), 9);
        x.puts(0);
        check.fine("lays() of second", x, x.lays(), 5 + 7);
        CoinsLaid apart = check.on(APART + ";lay 0");
        check.fine("lays() apart", apart, apart.lays(), 5 + 5);
    }

    static void promise09_noneIfOver() {
        CoinsLaid none = check.on(NO_LAYS);
        check.fine("lays() of none", none, none.lays(), 0);
        CoinsLaid full = check.on(ONE + ";lay 0");
        check.fine("lays() of a full board", full, full.lays(), 0);
        CoinsLaid own = check.on(ONE + " second");
        check.fine("lays() of second's alone", own, own.lays(), 0);
    }

    static void promise09_all() {
        CoinsLaid x = check.on(FULL);
        check.fine("lays() of an empty board", x, x.lays(), 14);
    }

    static void promise09_noTable() {
        CoinsLaid x = new CoinsLaid();
        check.refused("lays()", x, x.lays(), 1);
    }

    // ---- Promise 10: layAt

    static void promise10_theseInTheOrderOfTheirNumbers() {
        CoinsLaid x = check.on(TWO + ";lay 0");
        int[] due = {4, 5, 6, 7, 8, 11, 12, 13, 14, 15, 16, 17};
        for (int i = 0; i < due.length; i++) {
            check.fine("layAt(" + i + ")", x, x.layAt(i), due[i]);
        }
    }

    static void promise10_iTooSmallOrTooLarge() {
        CoinsLaid x = check.on(TWO);
        check.refusedOutside("layAt(i)", x, 0, 8, 1, i -> x.layAt(i));
        check.fine("layAt(8)", x, x.layAt(8), 8);
        x.puts(0);
        check.refusedOutside("layAt(i) behind a lay", x, 0, 11, 1, i -> x.layAt(i));
    }

    static void promise10_noneIfOver() {
        CoinsLaid x = check.on(ONE + ";lay 0");
        check.refused("layAt(0)", x, x.layAt(0), 1);
        CoinsLaid none = check.on(NO_LAYS);
        check.refused("layAt(0) of none", none, none.layAt(0), 1);
    }

    static void promise10_noTable() {
        CoinsLaid x = new CoinsLaid();
        check.refused("layAt(0)", x, x.layAt(0), 1);
    }

    // ---- Promise 11: across

    static void promise11_onItsBoardOfItsPiece() {
        CoinsLaid x = check.on(TWO);
        int[] due = {6, 4, 5, 3, 1, 2, 0, -2, -2, 14, 13, 12, 11, 10, 9, -2, 17, 16};
        for (int l = 0; l < due.length; l++) {
            check.fine("across(" + l + ")", x, x.across(l), due[l]);
        }
        CoinsLaid alike = check.on("table loses;board a wide 2 high 1;board b wide 2 high 1;piece p coin;piece q coin");
        int[] others = {1, 0, 3, 2, 5, 4, 7, 6};
        for (int l = 0; l < others.length; l++) {
            check.fine("across(" + l + ") of pieces alike", alike, alike.across(l), others[l]);
        }
    }

    static void promise11_onAHighBoard() {
        CoinsLaid x = check.on("table loses;board a wide 2 high 4;piece p block 1,2");
        int[] due = {5, 4, 3, 2, 1, 0};
        for (int l = 0; l < due.length; l++) {
            check.fine("across(" + l + ")", x, x.across(l), due[l]);
        }
    }

    static void promise11_itMayBeItself() {
        CoinsLaid x = check.on(NINE + "block 3,1");
        check.fine("across(1)", x, x.across(1), 1);
        CoinsLaid one = check.on(ONE);
        check.fine("across(0) of one square", one, one.across(0), 0);
    }

    static void promise11_noneOnAJug() {
        CoinsLaid x = check.on("table loses;board a wide 3 high 1;jug a 2,0;piece p coin");
        check.fine("across(0)", x, x.across(0), -2);
        check.fine("across(1)", x, x.across(1), 1);
    }

    static void promise11_noneOfACornerThatDoesNotTurn() {
        CoinsLaid x = check.on("table loses;board a wide 2 high 2;piece p corner 2,2;piece q corner 2,2 turns");
        check.fine("across(0)", x, x.across(0), -2);
        check.fine("across(1)", x, x.across(1), 3);
        check.fine("across(3)", x, x.across(3), 1);
        check.fine("across(4)", x, x.across(4), 2);
    }

    static void promise11_whatLiesIsNoMatter() {
        CoinsLaid x = check.on("table loses apart;board a wide 2 high 1;piece p coin;lay 1");
        check.fine("across(0) where one lies", x, x.across(0), 1);
        check.fine("across(1) of one that lies", x, x.across(1), 0);
    }

    static void promise11_theLayTooSmallOrTooLarge() {
        CoinsLaid x = check.on(TWO);
        check.refusedOutside("across(l)", x, 0, 17, 1, l -> x.across(l));
    }

    static void promise11_noLaysAndNoTable() {
        CoinsLaid none = check.on(NO_LAYS);
        check.refused("across(0) of none", none, none.across(0), 1);
        CoinsLaid x = new CoinsLaid();
        check.refused("across(0)", x, x.across(0), 1);
    }

    // ---- Promise 12: taken

    static void promise12_squaresTakenByPieces() {
        CoinsLaid x = check.on(TWO);
        check.fine("taken() of none", x, x.taken(), 0);
        x.puts(7);
        check.fine("taken() of b", x, x.taken(), 192);
        x.puts(9);
        check.fine("taken() of both", x, x.taken(), 193);
        x.takes();
        check.fine("taken() without the latest", x, x.taken(), 192);
    }

    static void promise12_jugsAndSquaresBesideAreNotTaken() {
        CoinsLaid x = check.on("table loses apart;board a wide 3 high 1;jug a 2,0;piece p coin;lay 0");
        check.fine("taken()", x, x.taken(), 1);
    }

    static void promise12_allAreTaken() {
        CoinsLaid x = check.on(FULL);
        for (int l = 0; l < 14; l++) {
            x.puts(l);
        }
        check.fine("taken()", x, x.taken(), (1 << 14) - 1);
    }

    static void promise12_noTable() {
        CoinsLaid x = new CoinsLaid();
        check.refused("taken()", x, x.taken(), 1);
    }

    // ---- Promise 13: dead

    static void promise13_noneIsDead() {
        CoinsLaid x = check.on(TWO);
        check.fine("dead()", x, x.dead(), 0);
    }

    static void promise13_freeAndOfNoLay() {
        CoinsLaid x = check.on("table loses;board a wide 6 high 1;jug a 5,0;piece m block 2,1;lay 1");
        // 0 is alone, 1 and 2 are taken, 3 and 4 are left, 5 is a jug
        check.fine("dead()", x, x.dead(), 1);
        x.puts(3);
        check.fine("dead() behind another", x, x.dead(), 1);
        x.undo();
        x.undo();
        CoinsLaid both = check.on("table loses;board a wide 5 high 1;jug a 4,0;piece m block 2,1;lay 1");
        check.fine("dead() at both sides", both, both.dead(), 9);
    }

    static void promise13_takenSquaresAndJugsAreNot() {
        CoinsLaid x = check.on("table loses;board a wide 3 high 1;jug a 1,0;piece p coin;lay 0;lay 1");
        check.fine("dead()", x, x.dead(), 0);
    }

    static void promise13_eitherOnesLaysCount() {
        CoinsLaid x = check.on("table loses;board a wide 2 high 1;piece p coin second");
        check.fine("dead() while first is next", x, x.dead(), 0);
        CoinsLaid y = check.on("table loses;board a wide 2 high 1;piece p coin first;lay 0");
        check.fine("dead() while second is next", y, y.dead(), 0);
    }

    static void promise13_apartThoseBesideAreDead() {
        CoinsLaid x = check.on("table loses apart;board a wide 4 high 1;piece p coin;lay 0");
        check.fine("dead()", x, x.dead(), 2);
        CoinsLaid block = check.on("table loses apart;board a wide 5 high 1;piece p block 2,1;lay 0");
        check.fine("dead() of blocks", block, block.dead(), 4);
    }

    static void promise13_allAreDead() {
        CoinsLaid none = check.on(NO_LAYS);
        check.fine("dead() of no lays", none, none.dead(), 15);
        CoinsLaid all = check.on("table loses;board a wide 7 high 2;piece p block 1,3");
        check.fine("dead() of 14", all, all.dead(), (1 << 14) - 1);
    }

    static void promise13_noTable() {
        CoinsLaid x = new CoinsLaid();
        check.refused("dead()", x, x.dead(), 1);
    }
}
