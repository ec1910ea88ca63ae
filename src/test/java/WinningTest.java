/** Promises 14 to 25: over, who has it and by what, how soon, heaps, across, spoilt lays, the elbow. */
public final class WinningTest {
    private static final Check check = new Check("WinningTest");

    public static void main(String[] args) {
        over();
        has();
        bestAndGood();
        soonest();
        ways();
        heaps();
        noHeaps();
        half();
        byAcross();
        spoilsAndOpen();
        elbow();
        withoutATable();
        check.end();
    }

    private static String row(String law, int wide, String pieces) {
        return "table " + law + ";board a wide " + wide + " high 1;" + pieces;
    }

    private static void over() {
        CoinsLaid x = check.on(row("loses", 2, "piece p coin"));
        check.fine("over()", x, x.over(), 0);
        x.puts(0);
        check.fine("over() of one left", x, x.over(), 0);
        x.puts(1);
        check.fine("over() of none left", x, x.over(), 1);
        CoinsLaid own = check.on(row("loses", 2, "piece p coin first"));
        own.puts(0);
        check.fine("over() as only the other one could lay", own, own.over(), 1);
        check.due("dead() then", own.dead(), 0);
        CoinsLaid none = check.on(row("wins", 2, "piece p block 3,1"));
        check.fine("over() of no lays", none, none.over(), 1);
        check.due("has() as no room wins", none.has(), 1);
        check.due("soonest() then", none.soonest(), 0);
    }

    private static void has() {
        // rows of n squares, two side by side taken: lost for n = 0, 1, 5
        int[] won = {0, 1, 1, 1, 0, 1, 1, 1};
        for (int n = 1; n <= 8; n++) {
            CoinsLaid x = check.on(row("loses", n, "piece p block 2,1"));
            check.fine("has() of a row of " + n, x, x.has(), won[n - 1]);
        }
        // of coins alone, only whether their number is odd counts; who has no room wins: the other way round
        for (int n = 1; n <= 8; n++) {
            check.due("has() of " + n + " coins", check.on(row("loses", n, "piece p coin")).has(), n & 1);
            check.due("has() of " + n + " coins, wins", check.on(row("wins", n, "piece p coin")).has(), 1 - (n & 1));
        }
        CoinsLaid own = check.on("table loses;board a wide 2 high 1;piece b block 1,1 second;piece c coin first");
        check.due("first: a coin each", own.has(), 0);
        own = check.on("table loses;board a wide 3 high 1;piece b block 2,1 second;piece c coin first");
        check.due("first: the coin in the middle spoils the block", own.has(), 1);
        check.due("by which", own.best(), own.layOf(1, 0, 1, 0, 0));
    }

    private static void bestAndGood() {
        CoinsLaid x = check.on(row("loses", 4, "piece p block 2,1"));
        check.fine("best(): in the middle", x, x.best(), 1);
        check.fine("good()", x, x.good(), 1);
        CoinsLaid lost = check.on(row("loses", 5, "piece p block 2,1"));
        check.fine("best() of a lost one", lost, lost.best(), -2);
        check.fine("good() of a lost one", lost, lost.good(), 0);
        CoinsLaid over = check.on(row("wins", 1, "piece p coin;lay 0"));
        check.fine("best() if over", over, over.best(), -2);
        check.fine("good() if over", over, over.good(), 0);
        check.due("though he has it", over.has(), 1);
        CoinsLaid two = check.on(row("loses", 2, "piece p coin;piece q coin;piece r block 2,1"));
        check.fine("best() at once", two, two.best(), 4);
        check.fine("good() at once", two, two.good(), 1);
    }

    private static void soonest() {
        CoinsLaid lost = check.on(row("loses", 5, "piece p block 2,1"));
        check.fine("soonest() of a lost row of 5", lost, lost.soonest(), 2);
        // of 7: left 3 and 2 in one lay each, or 5 squares: two lays more either way
        CoinsLaid x = check.on(row("loses", 7, "piece p block 2,1"));
        check.fine("soonest() of a row of 7", x, x.soonest(), 3);
        // the winner ends it at once by the block, though coins would win later
        CoinsLaid at = check.on(row("loses", 3, "piece p coin;piece q block 3,1"));
        check.fine("soonest() at once", at, at.soonest(), 1);
        // the loser makes it as long as he can: coins in a row of 4
        check.fine("soonest() of 4 coins", at = check.on(row("loses", 4, "piece p coin")), at.soonest(), 4);
        CoinsLaid wins = check.on(row("wins", 2, "piece p coin"));
        check.fine("soonest() as no room wins", wins, wins.soonest(), 2);
    }

    private static void ways() {
        CoinsLaid x = check.on(row("loses", 4, "piece p coin"));
        check.fine("ways() of 4 coins", x, x.ways(), 24);
        check.due("ways() of two sorts of coins", check.on(row("loses", 3, "piece p coin;piece q coin")).ways(), 48);
        check.due("ways() behind a lay", check.on(row("loses", 4, "piece p coin;lay 2")).ways(), 6);
        check.due("ways() if over", check.on(row("wins", 1, "piece p coin;lay 0")).ways(), 1);
        String most = "table wins;board a wide 7 high 2;piece p coin;piece q coin;piece r coin";
        // 14! and 3 to the 14th: still below; with a fourth coin above
        check.due("ways() by three coins", check.on(most).ways(), 87178291200L * 4782969L);
        check.due("ways() at most", check.on(most + ";piece s coin").ways(), 1000000000000000000L);
    }

    private static void heaps() {
        int[] dawson = {0, 1, 1, 2, 0, 3, 1, 1};
        for (int n = 1; n <= 8; n++) {
            CoinsLaid x = check.on(row("loses", n, "piece p block 2,1"));
            check.fine("heap(-1) of a row of " + n, x, x.heap(-1), dawson[n - 1]);
            check.due("heap(0) of it", x.heap(0), dawson[n - 1]);
        }
        CoinsLaid x = check.on("table loses;board a wide 4 high 1;board b wide 6 high 1;board c wide 2 high 2;"
                + "piece p block 2,1");
        check.fine("heap(0)", x, x.heap(0), 2);
        check.fine("heap(1)", x, x.heap(1), 3);
        check.fine("heap(2)", x, x.heap(2), 0);
        check.fine("heap(-1)", x, x.heap(-1), 1);
        check.refused("heap(3)", x, x.heap(3), 1);
        check.refused("heap(-2)", x, x.heap(-2), 1);
        x.puts(0);
        check.fine("heap(0) behind a lay", x, x.heap(0), 1);
        check.fine("heap(-1) behind a lay", x, x.heap(-1), 2);
        CoinsLaid apart = check.on("table loses apart;board a wide 5 high 1;board b wide 1 high 1;piece p coin");
        // a square more, and each coin takes the one at its right with it
        check.due("heap(0) of coins apart", apart.heap(0), apart.size(6, 2));
    }

    private static void noHeaps() {
        CoinsLaid wins = check.on(row("wins", 3, "piece p coin"));
        check.refused("heap(0) as no room wins", wins, wins.heap(0), 5);
        check.refused("heap(-1) as no room wins", wins, wins.heap(-1), 5);
        check.refused("heap(1) of no board", wins, wins.heap(1), 1);
        CoinsLaid own = check.on(row("loses", 3, "piece p coin;piece q block 4,4 second"));
        check.refused("heap(0) of one's own", own, own.heap(0), 5);
        check.refused("heap(7) of one's own", own, own.heap(7), 1);
    }

    private static void half() {
        CoinsLaid x = check.on("table wins;board a wide 3 high 2;board b wide 2 high 1;jug b 0,0;board c wide 2 high 1;"
                + "jug c 0,0;jug c 1,0;piece p coin");
        check.fine("half(0)", x, x.half(0), 1);
        check.fine("half(1) with one jug", x, x.half(1), 0);
        check.fine("half(2) with two", x, x.half(2), 1);
        x.puts(x.layOf(0, 0, 2, 0, 0));
        check.fine("half(0) behind a lay", x, x.half(0), 0);
        x.puts(x.layOf(0, 0, 2, 1, 0));
        check.fine("half(0) turned over, not round", x, x.half(0), 0);
        x.takes();
        x.puts(x.layOf(0, 0, 0, 1, 0));
        check.fine("half(0) turned half round", x, x.half(0), 1);
        check.refused("half(3)", x, x.half(3), 1);
        check.refused("half(-1)", x, x.half(-1), 1);
    }

    private static void byAcross() {
        across("table loses;board a wide 4 high 1;piece p coin", 2);
        across("table loses;board a wide 3 high 1;piece p coin", 1);
        across("table loses;board a wide 3 high 1;board b wide 3 high 1;piece p coin", 0);
        across("table loses;board a wide 3 high 1;jug a 1,0;piece p coin", 2);
        across("table loses;board a wide 3 high 1;jug a 0,0;piece p coin", 0);
        across("table wins;board a wide 4 high 1;piece p coin", 0);
        across("table loses;board a wide 4 high 1;piece p coin first", 0);
        across("table loses;board a wide 4 high 1;piece p coin;lay 1", 0);
        across("table loses;board a wide 4 high 1;piece p coin;lay 1;lay 2", 2);
        // the two in the middle lie beside each other
        across("table loses apart;board a wide 4 high 1;piece p coin", 0);
        across("table loses apart;board a wide 5 high 1;piece p coin", 1);
        // the block in the middle is its own; behind it both sides are across
        across("table loses;board a wide 6 high 1;piece p block 2,1", 1);
        // those of the two in the middle share a square
        across("table loses;board a wide 5 high 1;piece p block 2,1", 0);
        // a corner that does not turn has none across
        across("table loses;board a wide 4 high 3;piece p corner 2,2", 0);
        // over: nothing is without one across
        across("table loses;board a wide 2 high 2;piece p block 3,3", 2);
    }

    private static void across(String text, int due) {
        CoinsLaid x = check.on(text);
        check.fine("byAcross() of " + text, x, x.byAcross(), due);
        if (due != 0) {
            check.due("has() of " + text, x.has(), due & 1);
        }
    }

    private static void spoilsAndOpen() {
        CoinsLaid x = check.on("table loses;board a wide 3 high 1;board b wide 2 high 1;piece p coin;"
                + "piece q block 2,1 second");
        check.fine("spoils(1)", x, x.spoils(1), 3);
        check.fine("spoils(0)", x, x.spoils(0), 2);
        check.fine("spoils(3)", x, x.spoils(3), 2);
        check.refused("spoils of second's", x, x.spoils(5), 5);
        check.refused("spoils(8)", x, x.spoils(8), 1);
        check.refused("spoils(-1)", x, x.spoils(-1), 1);
        check.fine("open(1)", x, x.open(1), 3);
        check.fine("open(0)", x, x.open(0), 2);
        check.fine("open(4)", x, x.open(4), 2);
        check.refused("open(5)", x, x.open(5), 1);
        check.refused("open(-1)", x, x.open(-1), 1);
        x.puts(0);
        check.refused("spoils of one that lies", x, x.spoils(0), 5);
        check.fine("spoils of second's then", x, x.spoils(6), 3);
        check.fine("open(0) taken", x, x.open(0), 0);
        check.fine("open(1) then", x, x.open(1), 2);
        CoinsLaid apart = check.on("table loses apart;board a wide 3 high 3;piece p coin");
        check.fine("spoils in the middle", apart, apart.spoils(4), 5);
        check.fine("spoils at the corner", apart, apart.spoils(0), 3);
        CoinsLaid jug = check.on("table loses;board a wide 2 high 1;jug a 1,0;piece p coin");
        check.fine("open of a jug", jug, jug.open(1), 0);
    }

    private static void elbow() {
        CoinsLaid x = check.on(row("loses", 3, "piece p coin"));
        check.fine("elbow()", x, x.elbow(), 0);
        x = check.on(row("loses", 3, "jug a 0,0;piece p coin;lay 0"));
        check.fine("elbow() neither on a jug nor on a coin", x, x.elbow(), 2);
        x.puts(1);
        check.fine("elbow() with no square left", x, x.elbow(), -2);
        // of 4 squares: blocks at 0, 1 or 2; a square at the edge leaves 3, one in the middle 1 and 2
        x = check.on(row("loses", 4, "piece p block 2,1"));
        check.fine("elbow() that turns nothing", x, x.elbow(), -2);
        x = check.on(row("loses", 5, "piece p block 2,1"));
        check.fine("elbow() of a lost one", x, x.elbow(), 0);
        x = check.on("table loses apart;board a wide 3 high 1;piece p coin");
        check.fine("elbow() beside which none may lie", x, x.elbow(), 1);
        x = check.on("table loses apart;board a wide 2 high 1;jug a 0,0;piece p coin");
        check.fine("elbow() not on a jug, though it would turn it there", x, x.elbow(), 1);
        x = check.on(row("wins", 1, "piece p coin"));
        check.fine("elbow() as no room wins", x, x.elbow(), 0);
    }

    private static void withoutATable() {
        CoinsLaid x = new CoinsLaid();
        check.refused("over", x, x.over(), 1);
        check.refused("has", x, x.has(), 1);
        check.refused("best", x, x.best(), 1);
        check.refused("good", x, x.good(), 1);
        check.refused("soonest", x, x.soonest(), 1);
        check.refused("ways", x, x.ways(), 1);
        check.refused("heap(-1)", x, x.heap(-1), 1);
        check.refused("heap(0)", x, x.heap(0), 1);
        check.refused("byAcross", x, x.byAcross(), 1);
        check.refused("half", x, x.half(0), 1);
        check.refused("spoils", x, x.spoils(0), 1);
        check.refused("open", x, x.open(0), 1);
        check.refused("elbow", x, x.elbow(), 1);
    }
}
