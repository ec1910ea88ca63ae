/** Promises 33 to 36, with term III: what players by rules would lay, their matches, and whom one beats. */
public final class PlayersTest {
    private static final Check check = new Check("PlayersTest");
    private static final int CHILD = 0;
    private static final int MISER = 1;
    private static final int LANDLORD = 2;
    private static final int DRUNK = 3;
    private static final int WISE = 4;
    private static final String OVER = ";board a wide 1 high 1;piece p coin;lay 0";

    public static void main(String[] args) throws Exception {
        check.runAll(PlayersTest.class);
    }

    private static String row(int wide, String pieces) {
        return "table loses;board a wide " + wide + " high 1;" + pieces;
    }

    // ---- Promise 33: would

    static void promise33_aChildLaysTheFirstThatMayBe() {
        CoinsLaid x = check.on(row(4, "piece p block 2,1 second;piece q coin first"));
        check.fine("would(CHILD)", x, x.would(CHILD), 3);
        x.puts(3);
        check.fine("would(CHILD) as second", x, x.would(CHILD), 1);
    }

    static void promise33_aMiserLeavesTheFewest() {
        CoinsLaid x = check.on(row(6, "piece p block 2,1"));
        // behind 0: 3 may be, behind 1: 2, behind 2: 2, of which 1 is the first
        check.fine("would(MISER)", x, x.would(MISER), 1);
        CoinsLaid last = check.on(row(3, "piece q coin;piece p block 3,1"));
        check.fine("would(MISER), the last one", last, last.would(MISER), 3);
    }

    static void promise33_aMiserCountsTheOtherOnesAlone() {
        // the coins are not the other one's: behind a block in the middle he has one lay
        CoinsLaid x = check.on(row(5, "piece p block 2,1;piece q coin first"));
        check.fine("would(MISER)", x, x.would(MISER), 1);
        // second's block is the other one's, though it may not be now: the coin in the middle spoils it
        CoinsLaid second = check.on(row(3, "piece p block 2,1 second;piece q coin"));
        check.fine("would(MISER) against second's", second, second.would(MISER), 3);
    }

    static void promise33_aMiserLaysWhatMayBeNow() {
        // a block would leave one alone, but there is a coin where it would lie
        CoinsLaid coin = check.on(row(5, "piece p block 4,1;piece q coin;lay 3"));
        check.fine("would(MISER) where a coin lies", coin, coin.would(MISER), 2);
        // of 2 to 5 the block in the middle leaves none
        CoinsLaid block = check.on(row(6, "piece p block 2,1;lay 0"));
        check.fine("would(MISER) beside a block", block, block.would(MISER), 3);
    }

    static void promise33_aMiserWhoIsSecondCountsFirsts() {
        // a coin on 1 leaves first a block and two coins, one on 2 two coins
        CoinsLaid x = check.on(row(4, "piece p block 2,1 first;piece q coin;lay 3"));
        check.fine("would(MISER)", x, x.would(MISER), 5);
    }

    static void promise33_aMiserApart() {
        // behind 0 the four from 2 on may be, behind 1 three, behind 2 three
        CoinsLaid x = check.on("table loses apart;board a wide 6 high 1;piece q coin");
        check.fine("would(MISER)", x, x.would(MISER), 1);
    }

    static void promise33_aMiserOfLikeOnesLaysTheFirst() {
        CoinsLaid x = check.on(row(3, "piece q coin"));
        check.fine("would(MISER)", x, x.would(MISER), 0);
    }

    static void promise33_aLandlordLaysAcross() {
        CoinsLaid x = check.on(row(5, "piece p block 2,1;piece q coin;lay 5"));
        check.fine("would(LANDLORD)", x, x.would(LANDLORD), 7);
        CoinsLaid board = check.on("table loses;board a wide 2 high 1;board b wide 3 high 1;piece q coin;lay 2");
        check.fine("would(LANDLORD) on its board", board, board.would(LANDLORD), 4);
    }

    static void promise33_aLandlordWithNothingLyingIsAChild() {
        CoinsLaid x = check.on(row(5, "piece p block 2,1 second;piece q coin"));
        check.fine("would(LANDLORD)", x, x.would(LANDLORD), 4);
    }

    static void promise33_aLandlordIsAChildIfItMayNotBe() {
        CoinsLaid itself = check.on(row(3, "piece q coin;lay 1"));
        check.fine("would(LANDLORD), its own across", itself, itself.would(LANDLORD), 0);
        CoinsLaid taken = check.on(row(3, "piece q coin;lay 0;lay 2"));
        check.fine("would(LANDLORD) where one lies", taken, taken.would(LANDLORD), 1);
        CoinsLaid own = check.on(row(4, "piece p coin first;piece q coin;lay 0"));
        check.fine("would(LANDLORD) of first's own", own, own.would(LANDLORD), 5);
        CoinsLaid apart = check.on("table loses apart;board a wide 4 high 1;piece q coin;lay 1");
        check.fine("would(LANDLORD) apart", apart, apart.would(LANDLORD), 3);
    }

    static void promise33_aLandlordIsAChildIfThereIsNone() {
        CoinsLaid jug = check.on(row(3, "jug a 2,0;piece q coin;lay 0"));
        check.fine("would(LANDLORD) across of a jug", jug, jug.would(LANDLORD), 1);
        CoinsLaid corner = check.on("table loses;board a wide 4 high 3;piece p corner 2,2;lay 0");
        check.fine("would(LANDLORD) of a corner that does not turn", corner, corner.would(LANDLORD), 2);
    }

    static void promise33_aLandlordLooksAtTheLatestThatLies() {
        CoinsLaid x = check.on(row(6, "piece q coin"));
        x.puts(1);
        x.puts(0);
        check.fine("would(LANDLORD)", x, x.would(LANDLORD), 5);
        x.takes();
        check.fine("would(LANDLORD) with that one taken up", x, x.would(LANDLORD), 4);
    }

    static void promise33_aDrunkDraws() {
        CoinsLaid x = check.on(row(5, "piece q coin;lay 2"));
        int[] draws = {74, 5624, 28652};
        int[] left = {0, 1, 3, 4};
        check.fine("would(DRUNK)", x, x.would(DRUNK), left[draws[0] % 4]);
        x.seed(draws[0]);
        check.fine("would(DRUNK) next", x, x.would(DRUNK), left[draws[1] % 4]);
        x.seed(draws[1]);
        check.fine("would(DRUNK) then", x, x.would(DRUNK), left[draws[2] % 4]);
    }

    static void promise33_aDrunksDrawComesRoundAt65537() {
        CoinsLaid x = check.on(row(7, "piece q coin"));
        // 75 times 65,536 and 74 is 74 times 65,537 and 65,536 more
        x.seed(65536);
        check.fine("would(DRUNK) of 65,536", x, x.would(DRUNK), 65536 % 7);
        // 75 times 872 and 74 is 65,474; of 873 it is 65,549, of which 12 are left
        x.seed(872);
        check.fine("would(DRUNK) of 872", x, x.would(DRUNK), 65474 % 7);
        x.seed(873);
        check.fine("would(DRUNK) of 873", x, x.would(DRUNK), 12 % 7);
    }

    static void promise33_aDrunksDrawMayBe0() {
        CoinsLaid x = check.on(row(7, "piece q coin"));
        for (int seed = 0; seed < 65537; seed++) {
            if ((75L * seed + 74) % 65537 == 0) {
                x.seed(seed);
                check.fine("would(DRUNK)", x, x.would(DRUNK), 0);
                check.due("plays(DRUNK)", x.plays(DRUNK), 0);
                check.due("SEED", x.told(8), 0);
            }
        }
    }

    static void promise33_aDrunkWithOneThatMayBe() {
        CoinsLaid x = check.on(row(2, "piece q coin;lay 0"));
        check.fine("would(DRUNK)", x, x.would(DRUNK), 1);
    }

    static void promise33_theSeedStays() {
        CoinsLaid x = check.on(row(5, "piece q coin"));
        x.seed(17);
        int first = x.would(DRUNK);
        check.due("SEED", x.told(8), 17);
        check.due("would(DRUNK) again", x.would(DRUNK), first);
        check.due("taken()", x.taken(), 0);
        check.due("told(9)", x.told(9), 0);
    }

    static void promise33_aWiseOneLaysTheFirstByWhichTheOtherHasItNot() {
        CoinsLaid x = check.on(row(4, "piece p block 2,1"));
        check.fine("would(WISE)", x, x.would(WISE), 1);
    }

    static void promise33_aWiseOneWithoutSuchLaysTheFirst() {
        CoinsLaid x = check.on(row(5, "piece p block 2,1;jug a 2,0"));
        check.fine("would(WISE)", x, x.would(WISE), 0);
        CoinsLaid lost = check.on(row(4, "piece p coin second;piece q coin"));
        check.fine("would(WISE), the first that may be", lost, lost.would(WISE), 4);
    }

    static void promise33_noneIfOver() {
        CoinsLaid loses = check.on("table loses" + OVER);
        CoinsLaid wins = check.on("table wins" + OVER);
        for (int player = 0; player < 5; player++) {
            check.fine("would(" + player + ")", loses, loses.would(player), -2);
            check.fine("would(" + player + "), wins", wins, wins.would(player), -2);
        }
        check.due("SEED", loses.told(8), 0);
    }

    static void promise33_thePlayerTooSmallOrTooLarge() {
        CoinsLaid x = check.on(row(4, "piece p coin"));
        check.refusedOutside("would(player)", x, 0, 4, 1, player -> x.would(player));
        CoinsLaid over = check.on("table loses" + OVER);
        check.refusedOutside("would(player) if over", over, 0, 4, 1, player -> over.would(player));
    }

    static void promise33_noTable() {
        CoinsLaid x = new CoinsLaid();
        check.refused("would(0)", x, x.would(0), 1);
    }

    // ---- Promise 34: match

    static void promise34_theFirstToldIsNext() {
        CoinsLaid x = check.on(row(4, "piece p block 2,1"));
        // a child lays at 0, then a block is left; a wise one lays in the middle
        check.fine("match(CHILD, CHILD)", x, x.match(CHILD, CHILD), 1);
        check.fine("match(WISE, CHILD)", x, x.match(WISE, CHILD), 0);
        check.fine("match(CHILD, WISE)", x, x.match(CHILD, WISE), 1);
        x.puts(0);
        check.fine("match(CHILD, WISE) while second is next", x, x.match(CHILD, WISE), 0);
    }

    static void promise34_theyLayByTurns() {
        // a miser lays 1 and 2, a child 3 and 4, a miser 5 and 6
        CoinsLaid seven = check.on(row(7, "piece p block 2,1"));
        check.fine("match(MISER, CHILD)", seven, seven.match(MISER, CHILD), 0);
        // a child lays a coin on 0, a miser the block behind it
        CoinsLaid three = check.on(row(3, "piece p coin;piece q block 2,1"));
        check.fine("match(CHILD, MISER)", three, three.match(CHILD, MISER), 1);
    }

    static void promise34_theLawCounts() {
        CoinsLaid loses = check.on(row(3, "piece q coin"));
        check.fine("match(CHILD, CHILD)", loses, loses.match(CHILD, CHILD), 0);
        CoinsLaid wins = check.on("table wins;board a wide 3 high 1;piece q coin");
        check.fine("match(CHILD, CHILD), wins", wins, wins.match(CHILD, CHILD), 1);
    }

    static void promise34_ifOver() {
        CoinsLaid loses = check.on("table loses" + OVER);
        check.fine("match: the first told has lost", loses, loses.match(WISE, CHILD), 1);
        CoinsLaid wins = check.on("table wins" + OVER);
        check.fine("match: the first told has won", wins, wins.match(WISE, CHILD), 0);
    }

    static void promise34_allStaysAsItWas() {
        CoinsLaid x = check.on(row(6, "piece q coin;lay 2"));
        x.seed(5);
        x.match(DRUNK, DRUNK);
        check.due("taken()", x.taken(), 4);
        check.due("SEED", x.told(8), 5);
        check.due("told(9)", x.told(9), 0);
        check.due("led(0)", x.led(0), 2);
    }

    static void promise34_aLandlordAnswersWhatLaidTheOther() {
        CoinsLaid x = check.on(row(6, "piece q coin"));
        check.fine("match(CHILD, LANDLORD)", x, x.match(CHILD, LANDLORD), 1);
        CoinsLaid blocks = check.on(row(8, "jug a 3,0;jug a 4,0;piece p block 2,1;piece q coin"));
        check.fine("match(DRUNK, LANDLORD)", blocks, blocks.match(DRUNK, LANDLORD), 1);
    }

    /** One seed for both: what two drunks lay is what plays() of both leads to. */
    static void promise34_drunksDrawFromOneSeed() {
        CoinsLaid x = check.on(row(8, "piece p block 2,1"));
        for (int seed = 0; seed < 20; seed++) {
            x.seed(seed);
            int length = x.matchLong(DRUNK, DRUNK);
            int won = x.match(DRUNK, DRUNK);
            int played = 0;
            while (x.over() == 0) {
                x.plays(DRUNK);
                played++;
            }
            check.due("matchLong of seed " + seed, length, played);
            check.due("match of seed " + seed, won, 1 - played % 2);
            while (x.told(6) > 0) {
                x.takes();
            }
        }
    }

    static void promise34_eachPlayerTooSmallOrTooLarge() {
        CoinsLaid x = check.on(row(4, "piece p coin"));
        check.refusedOutside("match(player, 0)", x, 0, 4, 1, player -> x.match(player, 0));
        check.refusedOutside("match(0, player)", x, 0, 4, 1, player -> x.match(0, player));
        check.fine("match(4, 4)", x, x.match(4, 4), 1);
    }

    static void promise34_noTable() {
        CoinsLaid x = new CoinsLaid();
        check.refused("match(0, 0)", x, x.match(0, 0), 1);
    }

    // ---- Promise 35: matchLong

    static void promise35_howManyLays() {
        CoinsLaid x = check.on(row(4, "piece p block 2,1"));
        check.fine("matchLong(CHILD, CHILD)", x, x.matchLong(CHILD, CHILD), 2);
        check.fine("matchLong(WISE, CHILD)", x, x.matchLong(WISE, CHILD), 1);
        CoinsLaid own = check.on(row(4, "piece p coin first"));
        check.fine("matchLong of first's own", own, own.matchLong(CHILD, CHILD), 1);
    }

    static void promise35_theyLayByTurns() {
        CoinsLaid seven = check.on(row(7, "piece p block 2,1"));
        check.fine("matchLong(MISER, CHILD)", seven, seven.matchLong(MISER, CHILD), 3);
        CoinsLaid three = check.on(row(3, "piece p coin;piece q block 2,1"));
        check.fine("matchLong(CHILD, MISER)", three, three.matchLong(CHILD, MISER), 2);
        check.fine("matchLong(CHILD, CHILD)", three, three.matchLong(CHILD, CHILD), 3);
    }

    static void promise35_noneIfOver() {
        CoinsLaid loses = check.on("table loses" + OVER);
        check.fine("matchLong(WISE, CHILD)", loses, loses.matchLong(WISE, CHILD), 0);
        CoinsLaid second = check.on(row(2, "piece p coin second"));
        check.fine("matchLong of second's own", second, second.matchLong(CHILD, CHILD), 0);
    }

    static void promise35_fourteenAtMost() {
        CoinsLaid x = check.on("table loses;board a wide 7 high 2;piece p coin");
        for (int player = 0; player < 5; player++) {
            check.fine("matchLong(" + player + ", DRUNK)", x, x.matchLong(player, DRUNK), 14);
            check.fine("match(" + player + ", DRUNK)", x, x.match(player, DRUNK), 1);
        }
    }

    static void promise35_fromNowOn() {
        CoinsLaid x = check.on(row(6, "piece q coin;lay 2;lay 3"));
        check.fine("matchLong(CHILD, LANDLORD)", x, x.matchLong(CHILD, LANDLORD), 4);
        check.due("taken()", x.taken(), 12);
    }

    static void promise35_theSeedStays() {
        CoinsLaid x = check.on(row(8, "piece p block 2,1"));
        x.seed(9);
        int length = x.matchLong(DRUNK, DRUNK);
        check.due("SEED", x.told(8), 9);
        check.due("matchLong again", x.matchLong(DRUNK, DRUNK), length);
    }

    static void promise35_eachPlayerTooSmallOrTooLarge() {
        CoinsLaid x = check.on(row(4, "piece p coin"));
        check.refusedOutside("matchLong(player, 0)", x, 0, 4, 1, player -> x.matchLong(player, 0));
        check.refusedOutside("matchLong(0, player)", x, 0, 4, 1, player -> x.matchLong(0, player));
    }

    static void promise35_noTable() {
        CoinsLaid x = new CoinsLaid();
        check.refused("matchLong(0, 0)", x, x.matchLong(0, 0), 1);
    }

    // ---- Promise 36: beats

    static void promise36_playersAsBits() {
        CoinsLaid x = check.on(row(4, "piece p block 2,1"));
        check.fine("beats(CHILD)", x, x.beats(CHILD), 0);
        check.fine("beats(MISER)", x, x.beats(MISER), 31);
        check.fine("beats(WISE)", x, x.beats(WISE), 31);
    }

    static void promise36_eachBitIsAMatchBeingToldFirst() {
        CoinsLaid x = check.on(row(8, "piece p block 2,1;piece q coin;lay 3"));
        int mixed = 0;
        for (int seed = 0; seed < 8; seed++) {
            x.seed(seed);
            for (int player = 0; player < 5; player++) {
                int bits = x.beats(player);
                mixed += bits != 0 && bits != 31 ? 1 : 0;
                for (int other = 0; other < 5; other++) {
                    check.due("beats(" + player + ") of " + other, bits >> other & 1, 1 - x.match(player, other));
                }
            }
        }
        check.due("whether some beat some alone", mixed > 0, true);
    }

    static void promise36_himselfToo() {
        CoinsLaid odd = check.on(row(3, "piece q coin"));
        CoinsLaid even = check.on(row(4, "piece q coin"));
        for (int player = 0; player < 5; player++) {
            check.fine("beats(" + player + ") of 3 coins", odd, odd.beats(player), 31);
            check.fine("beats(" + player + ") of 4 coins", even, even.beats(player), 0);
        }
    }

    static void promise36_ifOver() {
        CoinsLaid loses = check.on("table loses" + OVER);
        check.fine("beats(WISE)", loses, loses.beats(WISE), 0);
        CoinsLaid wins = check.on("table wins" + OVER);
        check.fine("beats(CHILD), wins", wins, wins.beats(CHILD), 31);
    }

    static void promise36_allStaysAsItWas() {
        CoinsLaid x = check.on(row(8, "piece p block 2,1;lay 2"));
        x.seed(11);
        int bits = x.beats(DRUNK);
        check.due("SEED", x.told(8), 11);
        check.due("beats again", x.beats(DRUNK), bits);
        check.due("taken()", x.taken(), 12);
        check.due("told(9)", x.told(9), 0);
    }

    static void promise36_thePlayerTooSmallOrTooLarge() {
        CoinsLaid x = check.on(row(4, "piece p coin"));
        check.refusedOutside("beats(player)", x, 0, 4, 1, player -> x.beats(player));
    }

    static void promise36_noTable() {
        CoinsLaid x = new CoinsLaid();
        check.refused("beats(0)", x, x.beats(0), 1);
    }
}
