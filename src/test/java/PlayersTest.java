/** Promises 33 to 36: what players by rules would lay, their matches, and whom one beats. */
public final class PlayersTest {
    private static final Check check = new Check("PlayersTest");
    private static final int CHILD = 0;
    private static final int MISER = 1;
    private static final int LANDLORD = 2;
    private static final int DRUNK = 3;
    private static final int WISE = 4;

    public static void main(String[] args) {
        children();
        misers();
        landlords();
        drunks();
        wise();
        ifOver();
        matches();
        drunkMatches();
        refusals();
        check.end();
    }

    private static String row(int wide, String pieces) {
        return "table loses;board a wide " + wide + " high 1;" + pieces;
    }

    private static void children() {
        CoinsLaid x = check.on(row(4, "piece p block 2,1 second;piece q coin first"));
        check.fine("a child's", x, x.would(CHILD), 3);
        x.puts(3);
        check.fine("a child's as second", x, x.would(CHILD), 1);
    }

    private static void misers() {
        CoinsLaid x = check.on(row(6, "piece p block 2,1"));
        // behind 0: 3 may be, behind 1: 2, behind 2: 2
        check.fine("a miser's", x, x.would(MISER), 1);
        CoinsLaid own = check.on(row(5, "piece p block 2,1;piece q coin first"));
        // the coins are not the other one's: behind a block in the middle he has one lay
        check.fine("a miser's with his own coins", own, own.would(MISER), 1);
        CoinsLaid coins = check.on(row(3, "piece q coin"));
        check.fine("a miser's of like ones", coins, coins.would(MISER), 0);
    }

    private static void landlords() {
        CoinsLaid x = check.on(row(5, "piece p block 2,1;piece q coin"));
        check.fine("a landlord's, none lying", x, x.would(LANDLORD), 0);
        x.puts(5);
        check.fine("a landlord's", x, x.would(LANDLORD), 7);
        x.puts(7);
        check.fine("a landlord's where one lies", x, x.would(LANDLORD), 4);
        x.takes();
        check.fine("a landlord's of the latest that lies", x, x.would(LANDLORD), 7);
        CoinsLaid own = check.on(row(4, "piece p coin first;piece q coin"));
        own.puts(0);
        check.fine("a landlord's of first's own", own, own.would(LANDLORD), 5);
        CoinsLaid board = check.on("table loses;board a wide 2 high 1;board b wide 3 high 1;piece q coin");
        board.puts(2);
        check.fine("a landlord's on its board", board, board.would(LANDLORD), 4);
    }

    private static void drunks() {
        CoinsLaid x = check.on(row(5, "piece q coin;lay 2"));
        int[] draws = {74, 5624, 28652};
        int[] left = {0, 1, 3, 4};
        check.fine("a drunk's", x, x.would(DRUNK), left[draws[0] % 4]);
        check.due("SEED stays", x.told(8), 0);
        x.seed(draws[0]);
        check.fine("a drunk's next", x, x.would(DRUNK), left[draws[1] % 4]);
        x.seed(draws[1]);
        check.fine("a drunk's third", x, x.would(DRUNK), left[draws[2] % 4]);
        x.seed(65536);
        // 75 times 65,536 and 74 is 74 times 65,537 and 65,536
        check.fine("a drunk's of the last seed", x, x.would(DRUNK), left[(int) ((75L * 65536 + 74) % 65537 % 4)]);
    }

    private static void wise() {
        CoinsLaid x = check.on(row(4, "piece p block 2,1"));
        check.fine("a wise one's", x, x.would(WISE), 1);
        CoinsLaid lost = check.on(row(5, "piece p block 2,1;jug a 2,0"));
        check.fine("a wise one's of a lost one", lost, lost.would(WISE), 0);
    }

    private static void ifOver() {
        CoinsLaid x = check.on(row(1, "piece p coin;lay 0"));
        for (int player = 0; player < 5; player++) {
            check.fine("would(" + player + ") if over", x, x.would(player), -2);
        }
        check.due("SEED if over", x.told(8), 0);
        check.fine("match if over: the first told has lost", x, x.match(WISE, CHILD), 1);
        check.fine("matchLong if over", x, x.matchLong(WISE, CHILD), 0);
        check.fine("beats if over", x, x.beats(WISE), 0);
        CoinsLaid wins = check.on("table wins;board a wide 1 high 1;piece p coin;lay 0");
        check.fine("match if over, wins", wins, wins.match(WISE, CHILD), 0);
        check.fine("beats if over, wins", wins, wins.beats(CHILD), 31);
    }

    private static void matches() {
        CoinsLaid x = check.on(row(4, "piece p block 2,1"));
        // a child lays at 0, then a block is left; a wise one and a miser lay in the middle
        check.fine("match(CHILD, CHILD)", x, x.match(CHILD, CHILD), 1);
        check.fine("matchLong(CHILD, CHILD)", x, x.matchLong(CHILD, CHILD), 2);
        check.fine("match(WISE, CHILD)", x, x.match(WISE, CHILD), 0);
        check.fine("matchLong(WISE, CHILD)", x, x.matchLong(WISE, CHILD), 1);
        check.fine("beats(CHILD)", x, x.beats(CHILD), 0);
        check.fine("beats(WISE)", x, x.beats(WISE), 31);
        check.fine("beats(MISER)", x, x.beats(MISER), 31);
        check.due("nothing lies behind matches", x.taken(), 0);
        check.due("no acts behind matches", x.told(9), 0);
        x.puts(0);
        check.fine("match from now on: the one who is next", x, x.match(CHILD, WISE), 0);
        CoinsLaid even = check.on(row(6, "piece q coin"));
        check.fine("a landlord across", even, even.match(CHILD, LANDLORD), 1);
        check.fine("as long as there is room", even, even.matchLong(CHILD, LANDLORD), 6);
        CoinsLaid wins = check.on("table wins;board a wide 3 high 1;piece q coin");
        check.fine("match as no room wins", wins, wins.match(CHILD, CHILD), 1);
        check.fine("beats as no room wins", wins, wins.beats(CHILD), 0);
    }

    /** One seed for both: what two drunks lay is what plays() of both leads to. */
    private static void drunkMatches() {
        CoinsLaid x = check.on(row(8, "piece p block 2,1"));
        for (int seed = 0; seed < 30; seed++) {
            x.seed(seed);
            int long0 = x.matchLong(DRUNK, DRUNK);
            int won = x.match(DRUNK, DRUNK);
            check.due("SEED stays " + seed, x.told(8), seed);
            check.due("beats(DRUNK) himself " + seed, (x.beats(DRUNK) >> DRUNK & 1) == 1, won == 0);
            int length = 0;
            while (x.over() == 0) {
                x.plays(DRUNK);
                length++;
            }
            check.due("matchLong of drunks " + seed, long0, length);
            check.due("match of drunks " + seed, won, 1 - length % 2);
            while (x.told(6) > 0) {
                x.takes();
            }
        }
    }

    private static void refusals() {
        CoinsLaid x = check.on(row(4, "piece p coin"));
        int[] none = {-1, 5, Integer.MAX_VALUE, Integer.MIN_VALUE};
        for (int player : none) {
            check.refused("would", x, x.would(player), 1);
            check.refused("match, first", x, x.match(player, 0), 1);
            check.refused("match, other", x, x.match(0, player), 1);
            check.refused("matchLong, first", x, x.matchLong(player, 0), 1);
            check.refused("matchLong, other", x, x.matchLong(0, player), 1);
            check.refused("beats", x, x.beats(player), 1);
        }
        CoinsLaid no = new CoinsLaid();
        check.refused("would, no table", no, no.would(0), 1);
        check.refused("match, no table", no, no.match(0, 0), 1);
        check.refused("matchLong, no table", no, no.matchLong(0, 0), 1);
        check.refused("beats, no table", no, no.beats(0), 1);
    }
}
