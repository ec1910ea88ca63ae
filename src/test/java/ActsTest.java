/** Promises 37 to 43, with term III: pieces laid, taken up, played, undone; the seed, images. */
public final class ActsTest {
    private static final Check check = new Check("ActsTest");
    private static final String ROW = "table loses;board a wide 5 high 1;piece p coin;piece q coin second";
    private static final String OVER = "table loses;board a wide 1 high 1;piece p coin;lay 0";
    private static final String NO_LAYS = "table loses;board a wide 1 high 1;piece p block 2,2";

    public static void main(String[] args) throws Exception {
        check.runAll(ActsTest.class);
    }

    // ---- Promise 37: puts

    static void promise37_itLies() {
        CoinsLaid x = check.on(ROW);
        check.fine("puts(0)", x, x.puts(0));
        check.due("taken()", x.taken(), 1);
        check.due("told(6)", x.told(6), 1);
        check.due("told(7)", x.told(7), 1);
        check.due("told(9)", x.told(9), 1);
        check.due("led(0)", x.led(0), 0);
        check.fine("puts of second's", x, x.puts(6));
        check.due("taken() then", x.taken(), 3);
        check.due("told(7) then", x.told(7), 0);
    }

    static void promise37_theLayTooSmallOrTooLarge() {
        CoinsLaid x = check.on(ROW);
        check.refusedOutside("puts(l)", x, 0, 9, 1, l -> x.puts(l) ? 1 : -1);
        check.due("told(9)", x.told(9), 0);
        x.puts(0);
        check.fine("puts of the last one", x, x.puts(9));
    }

    static void promise37_whereOneLies() {
        CoinsLaid x = check.on(ROW + ";lay 0");
        check.refused("puts(0)", x, x.puts(0), 5);
        check.refused("puts of another piece there", x, x.puts(5), 5);
        check.due("told(6)", x.told(6), 1);
        check.due("told(9): no act", x.told(9), 0);
    }

    static void promise37_besideOneIfApart() {
        CoinsLaid x = check.on("table loses apart;board a wide 3 high 1;piece p coin;lay 0");
        check.refused("puts(1)", x, x.puts(1), 5);
        check.fine("puts(2)", x, x.puts(2));
    }

    static void promise37_theOtherOnes() {
        CoinsLaid x = check.on(ROW);
        check.refused("puts of second's", x, x.puts(5), 5);
        check.due("taken()", x.taken(), 0);
        check.due("told(7)", x.told(7), 0);
    }

    static void promise37_ifOver() {
        CoinsLaid x = check.on(OVER);
        check.refused("puts(0)", x, x.puts(0), 5);
        CoinsLaid none = check.on(NO_LAYS);
        check.refused("puts(0) of none", none, none.puts(0), 1);
    }

    static void promise37_fourteenLie() {
        CoinsLaid x = check.on("table loses;board a wide 7 high 2;piece p coin");
        for (int l = 13; l >= 0; l--) {
            check.fine("puts(" + l + ")", x, x.puts(l));
        }
        check.due("told(6)", x.told(6), 14);
        check.due("led(13)", x.led(13), 0);
        check.due("over()", x.over(), 1);
    }

    static void promise37_noTable() {
        CoinsLaid x = new CoinsLaid();
        check.refused("puts(0)", x, x.puts(0), 1);
    }

    // ---- Promise 38: takes

    static void promise38_theLatestLaid() {
        CoinsLaid x = check.on(ROW);
        x.puts(3);
        x.puts(5);
        check.fine("takes()", x, x.takes(), 5);
        check.due("taken()", x.taken(), 8);
        check.due("told(7)", x.told(7), 1);
        check.due("told(9)", x.told(9), 3);
        check.fine("puts where it lay", x, x.puts(5));
    }

    static void promise38_alsoOfThoseTold() {
        CoinsLaid x = check.on(ROW + ";lay 3;lay 5");
        check.fine("takes()", x, x.takes(), 5);
        check.fine("takes() again", x, x.takes(), 3);
        check.due("taken()", x.taken(), 0);
        check.due("told(9)", x.told(9), 2);
    }

    static void promise38_noneLies() {
        CoinsLaid x = check.on(ROW);
        check.refused("takes()", x, x.takes(), 6);
        check.due("told(9): no act", x.told(9), 0);
        x.puts(0);
        x.takes();
        check.refused("takes() behind the last one", x, x.takes(), 6);
        check.due("told(9)", x.told(9), 2);
    }

    static void promise38_ifOver() {
        CoinsLaid x = check.on(OVER);
        check.fine("takes()", x, x.takes(), 0);
        check.due("over()", x.over(), 0);
    }

    static void promise38_theSeedStays() {
        CoinsLaid x = check.on(ROW);
        x.plays(3);
        x.takes();
        check.due("SEED", x.told(8), 74);
    }

    static void promise38_allLiftedFromAFullBoard() {
        CoinsLaid x = check.on("table loses;board a wide 7 high 2;piece p coin");
        for (int l = 0; l < 14; l++) {
            x.puts(l);
        }
        for (int l = 13; l >= 0; l--) {
            check.fine("takes() of " + l, x, x.takes(), l);
        }
        check.refused("takes() of none", x, x.takes(), 6);
    }

    static void promise38_noTable() {
        CoinsLaid x = new CoinsLaid();
        check.refused("takes()", x, x.takes(), 1);
    }

    // ---- Promise 39: plays

    static void promise39_itLaysWhatThePlayerWould() {
        CoinsLaid x = check.on("table loses;board a wide 4 high 2;piece p block 2,1 turns;piece q coin");
        for (int player = 0; player < 5; player++) {
            int due = x.would(player);
            check.fine("plays(" + player + ")", x, x.plays(player), due);
            check.due("it lies", x.led(x.told(6) - 1), due);
            check.due("told(9)", x.told(9), x.told(6));
        }
    }

    static void promise39_aDrunkDrawsTheSeedOnce() {
        CoinsLaid x = check.on(ROW);
        check.fine("plays of a drunk", x, x.plays(3), 74 % 5);
        check.due("SEED", x.told(8), 74);
        for (int player : new int[] {0, 1, 2, 4}) {
            x.plays(player);
            check.due("SEED behind " + player, x.told(8), 74);
        }
    }

    static void promise39_theSeedComesRound() {
        CoinsLaid x = check.on(ROW);
        x.seed(65536);
        check.fine("plays of a drunk", x, x.plays(3), 65536 % 5);
        check.due("SEED of 65,536", x.told(8), 65536);
        x.seed(873);
        x.plays(3);
        check.due("SEED of 873", x.told(8), 12);
    }

    static void promise39_thePlayerTooSmallOrTooLarge() {
        CoinsLaid x = check.on(ROW);
        check.refusedOutside("plays(player)", x, 0, 4, 1, player -> x.plays(player));
        check.due("taken()", x.taken(), 0);
        check.due("told(9)", x.told(9), 0);
    }

    static void promise39_ifOver() {
        CoinsLaid x = check.on(OVER);
        for (int player = 0; player < 5; player++) {
            check.refused("plays(" + player + ")", x, x.plays(player), 6);
        }
        check.due("SEED", x.told(8), 0);
        check.due("told(6)", x.told(6), 1);
        check.due("told(9): no act", x.told(9), 0);
        CoinsLaid own = check.on("table wins;board a wide 1 high 1;piece p coin second");
        check.refused("plays(0) with second's alone", own, own.plays(0), 6);
    }

    static void promise39_noSuchPlayerComesAheadOfOver() {
        CoinsLaid x = check.on(OVER);
        check.refusedOutside("plays(player)", x, 0, 4, 1, player -> x.plays(player));
    }

    static void promise39_tillItIsFull() {
        CoinsLaid x = check.on("table loses;board a wide 7 high 2;piece p coin");
        for (int i = 0; i < 14; i++) {
            check.due("whether " + i + " plays", x.plays(i % 5) >= 0, true);
        }
        check.refused("plays(0)", x, x.plays(0), 6);
        check.due("taken()", x.taken(), (1 << 14) - 1);
    }

    static void promise39_noTable() {
        CoinsLaid x = new CoinsLaid();
        check.refused("plays(0)", x, x.plays(0), 1);
    }

    // ---- Promise 40: seed

    static void promise40_theLeastAndTheGreatest() {
        CoinsLaid x = check.on(ROW);
        check.fine("seed(65536)", x, x.seed(65536));
        check.due("told(8)", x.told(8), 65536);
        check.fine("seed(0)", x, x.seed(0));
        check.due("told(8) anew", x.told(8), 0);
    }

    static void promise40_tooSmallOrTooLarge() {
        CoinsLaid x = check.on(ROW);
        x.seed(7);
        check.refusedOutside("seed(v)", x, 0, 65536, 2, v -> x.seed(v) ? 1 : -1);
        check.due("told(8) stays", x.told(8), 7);
    }

    static void promise40_itIsNoAct() {
        CoinsLaid x = check.on(ROW);
        x.seed(7);
        check.due("told(9)", x.told(9), 0);
        check.refused("undo()", x, x.undo(), 6);
        check.due("told(8)", x.told(8), 7);
        x.puts(0);
        x.seed(8);
        check.due("told(9) behind an act", x.told(9), 1);
    }

    static void promise40_noTable() {
        CoinsLaid x = new CoinsLaid();
        check.refused("seed(0)", x, x.seed(0), 1);
        check.refused("seed(-1)", x, x.seed(-1), 1);
        check.due("told(8)", x.told(8), 0);
    }

    // ---- Promise 41: undo

    static void promise41_ofALay() {
        CoinsLaid x = check.on(ROW + ";lay 0");
        x.puts(1);
        check.fine("undo()", x, x.undo());
        check.due("taken()", x.taken(), 1);
        check.due("told(7)", x.told(7), 1);
        check.due("told(9)", x.told(9), 0);
    }

    static void promise41_ofATakingUp() {
        CoinsLaid x = check.on(ROW + ";lay 3;lay 5");
        x.takes();
        x.takes();
        check.fine("undo()", x, x.undo());
        check.due("taken()", x.taken(), 8);
        check.fine("undo() again", x, x.undo());
        check.due("led(0)", x.led(0), 3);
        check.due("led(1)", x.led(1), 5);
        check.due("told(6)", x.told(6), 2);
    }

    static void promise41_ofAPlayTheSeedToo() {
        CoinsLaid x = check.on(ROW);
        x.seed(4);
        int drunk = x.plays(3);
        check.due("SEED drawn", x.told(8), 374);
        check.fine("undo()", x, x.undo());
        check.due("taken()", x.taken(), 0);
        check.due("SEED undone", x.told(8), 4);
        check.due("the same again", x.plays(3), drunk);
    }

    static void promise41_theSeedAsAheadOfTheAct() {
        CoinsLaid x = check.on(ROW);
        x.seed(3);
        x.puts(1);
        x.seed(4);
        x.takes();
        x.seed(5);
        x.undo();
        check.due("SEED ahead of the second", x.told(8), 4);
        x.undo();
        check.due("SEED ahead of the first", x.told(8), 3);
    }

    static void promise41_nothingToUndo() {
        CoinsLaid x = check.on(ROW + ";lay 0");
        check.refused("undo() of what is told", x, x.undo(), 6);
        x.puts(1);
        x.undo();
        check.refused("undo() behind undo()", x, x.undo(), 6);
        check.due("taken()", x.taken(), 1);
        CoinsLaid none = new CoinsLaid();
        check.refused("undo() without a table", none, none.undo(), 6);
    }

    static void promise41_refusedActsAreNone() {
        CoinsLaid x = check.on(ROW);
        x.puts(2);
        x.puts(2);
        x.puts(99);
        x.plays(9);
        x.image();
        check.fine("undo()", x, x.undo());
        check.due("taken()", x.taken(), 0);
        check.refused("undo() again", x, x.undo(), 6);
    }

    static void promise41_anUndoIsNoAct() {
        CoinsLaid x = check.on(ROW);
        x.puts(2);
        x.puts(3);
        x.undo();
        x.undo();
        check.due("taken()", x.taken(), 0);
        check.due("told(9)", x.told(9), 0);
    }

    /** Two lie as told; then by turns a third is laid and taken up. */
    private static CoinsLaid actedOn(int acts) {
        CoinsLaid x = check.on(ROW + ";lay 4;lay 3");
        for (int i = 0; i < acts; i++) {
            if (i % 2 == 0) {
                x.puts(0);
            } else {
                x.takes();
            }
        }
        return x;
    }

    static void promise41_fifteenAndSixteenAreKept() {
        for (int acts = 15; acts <= 16; acts++) {
            CoinsLaid x = actedOn(acts);
            check.due("told(9) of " + acts, x.told(9), acts);
            for (int i = 1; i <= acts; i++) {
                check.fine("undo() " + i + " of " + acts, x, x.undo());
                check.due("told(9) behind undo() " + i, x.told(9), acts - i);
                check.due("taken() behind undo() " + i, x.taken(), (acts - i) % 2 == 0 ? 24 : 25);
            }
            check.refused("undo() of none", x, x.undo(), 6);
        }
    }

    static void promise41_ofSeventeenTheFirstIsKeptNoMore() {
        CoinsLaid x = actedOn(17);
        check.due("told(9)", x.told(9), 16);
        for (int i = 0; i < 16; i++) {
            check.fine("undo() " + i, x, x.undo());
        }
        check.due("taken() behind the first act", x.taken(), 25);
        check.refused("undo() of the first", x, x.undo(), 6);
        check.due("taken() stays", x.taken(), 25);
    }

    static void promise41_theSixteenKeptComeRound() {
        CoinsLaid x = actedOn(40);
        x.puts(1);
        x.puts(2);
        check.due("told(9)", x.told(9), 16);
        check.fine("undo()", x, x.undo());
        check.due("taken()", x.taken(), 26);
        check.fine("undo() again", x, x.undo());
        check.due("taken() then", x.taken(), 24);
        check.due("told(9) then", x.told(9), 14);
        x.puts(2);
        check.due("told(9) behind a lay", x.told(9), 15);
        check.fine("undo() of it", x, x.undo());
        check.due("taken() as ahead of it", x.taken(), 24);
    }

    // ---- Promise 42: image

    static void promise42_itsNumber() {
        CoinsLaid x = check.on(ROW);
        for (int i = 0; i < 3; i++) {
            check.due("told(10)", x.told(10), i);
            check.fine("image() " + i, x, x.image(), i);
        }
        check.due("told(10) of three", x.told(10), 3);
    }

    static void promise42_noRoomForAFourth() {
        CoinsLaid x = check.on(ROW);
        x.image();
        x.puts(1);
        x.image();
        x.image();
        check.refused("image()", x, x.image(), 3);
        check.refused("image() again", x, x.image(), 3);
        check.due("told(10)", x.told(10), 3);
        x.back(0);
        check.due("taken() by the first", x.taken(), 0);
        check.refused("image() behind back()", x, x.image(), 3);
    }

    static void promise42_roomAgainWithAnotherTable() {
        CoinsLaid x = check.on(ROW);
        x.image();
        x.image();
        x.image();
        Check.tell(x, ROW);
        check.fine("image()", x, x.image(), 0);
    }

    static void promise42_itIsNoActAndChangesNothing() {
        CoinsLaid x = check.on(ROW);
        x.seed(9);
        x.puts(1);
        x.image();
        check.due("told(9)", x.told(9), 1);
        check.due("told(8)", x.told(8), 9);
        check.due("taken()", x.taken(), 2);
        check.fine("undo()", x, x.undo());
        check.due("taken() ahead of the act", x.taken(), 0);
    }

    static void promise42_noTable() {
        CoinsLaid x = new CoinsLaid();
        check.refused("image()", x, x.image(), 1);
        check.due("told(10)", x.told(10), 0);
    }

    // ---- Promise 43: back

    static void promise43_allIsAsByIt() {
        CoinsLaid x = check.on(ROW + ";lay 2");
        x.puts(0);
        x.seed(7);
        x.image();
        x.puts(1);
        x.seed(8);
        x.image();
        check.fine("back(0)", x, x.back(0));
        check.due("taken()", x.taken(), 5);
        check.due("told(6)", x.told(6), 2);
        check.due("told(7)", x.told(7), 0);
        check.due("SEED", x.told(8), 7);
        check.due("led(0)", x.led(0), 2);
        check.due("led(1)", x.led(1), 0);
        check.fine("back(1)", x, x.back(1));
        check.due("taken() by the other one", x.taken(), 7);
        check.due("SEED by the other one", x.told(8), 8);
    }

    static void promise43_withLessAndWithMoreLying() {
        CoinsLaid x = check.on(ROW);
        x.image();
        x.puts(0);
        x.puts(1);
        x.image();
        x.takes();
        check.fine("back(1)", x, x.back(1));
        check.due("takes()", x.takes(), 1);
        check.fine("back(0)", x, x.back(0));
        check.due("told(6)", x.told(6), 0);
        check.refused("takes() of none", x, x.takes(), 6);
        check.fine("back(1) once more", x, x.back(1));
        check.due("taken()", x.taken(), 3);
    }

    static void promise43_allImagesStay() {
        CoinsLaid x = check.on(ROW);
        x.image();
        x.image();
        x.back(0);
        check.due("told(10)", x.told(10), 2);
        check.fine("back(1)", x, x.back(1));
        check.fine("image()", x, x.image(), 2);
    }

    static void promise43_nothingCanBeUndone() {
        CoinsLaid x = check.on(ROW);
        x.puts(0);
        x.image();
        x.puts(1);
        check.fine("back(0)", x, x.back(0));
        check.due("told(9)", x.told(9), 0);
        check.refused("undo()", x, x.undo(), 6);
        x.puts(3);
        check.fine("undo() of what came behind", x, x.undo());
        check.due("taken()", x.taken(), 1);
        check.refused("undo() of what was ahead", x, x.undo(), 6);
    }

    static void promise43_theImageTooSmallOrTooLarge() {
        CoinsLaid x = check.on(ROW);
        check.refused("back(0) of none", x, x.back(0), 1);
        x.image();
        x.image();
        check.refusedOutside("back(image) of two", x, 0, 1, 1, image -> x.back(image) ? 1 : -1);
        x.image();
        check.refusedOutside("back(image) of three", x, 0, 2, 1, image -> x.back(image) ? 1 : -1);
        check.fine("back(2)", x, x.back(2));
    }

    static void promise43_refusedAllStays() {
        CoinsLaid x = check.on(ROW);
        x.image();
        x.puts(1);
        x.back(1);
        check.due("taken()", x.taken(), 2);
        check.due("told(9)", x.told(9), 1);
    }

    static void promise43_noTable() {
        CoinsLaid x = new CoinsLaid();
        check.refused("back(0)", x, x.back(0), 1);
    }
}
