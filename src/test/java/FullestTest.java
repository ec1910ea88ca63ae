/** Promises 26 to 28: fewest and most lays more, and how many by lot. */
public final class FullestTest {
    private static final Check check = new Check("FullestTest");

    public static void main(String[] args) {
        measures("table loses;board a wide 3 high 1;piece p block 2,1", 1, 1, 1000000);
        // 4 squares: the block in the middle leaves none, else one more: (2 + 1 + 2) / 3
        measures("table loses;board a wide 4 high 1;piece p block 2,1", 1, 2, 1666666);
        // 5: behind 0 or 3 a row of 3, behind 1 or 2 a row of 2 and of 1: always two
        measures("table wins;board a wide 5 high 1;piece p block 2,1", 2, 2, 2000000);
        // 6: behind 0 or 4 the row of 4 with its 1666666 rounded down, else two more: 2666666, 2, 2 + 1, 2, ..
        measures("table loses;board a wide 6 high 1;piece p block 2,1", 2, 3, (2 * 2666666 + 2 * 2000000 + 3000000) / 5);
        measures("table loses;board a wide 7 high 2;piece p coin", 14, 14, 14000000);
        measures("table loses apart;board a wide 3 high 1;piece p coin", 1, 2, 1666666);
        // by turns: the other one has nothing to lay
        measures("table loses;board a wide 4 high 1;piece p coin first", 1, 1, 1000000);
        measures("table loses;board a wide 4 high 1;piece p coin second", 0, 0, 0);
        // first's block, second's coin: 0 and 2 leave two squares, of which a coin may spoil the block or not
        measures("table loses;board a wide 3 high 1;piece p block 2,1 first;piece q coin second", 2, 2, 2000000);
        // 5: behind a block at an edge second has 5 lays, 12 / 5 on the mean, behind one further in 4, 9 / 4
        measures("table loses;board a wide 5 high 1;piece p block 2,1;piece q coin second", 2, 3, 2325000);
        measures("table loses;board a wide 1 high 1;piece p coin;lay 0", 0, 0, 0);
        laterOn();
        withoutATable();
        check.end();
    }

    private static void measures(String text, int fewest, int most, int lot) {
        CoinsLaid x = check.on(text);
        check.fine("fewest() of " + text, x, x.fewest(), fewest);
        check.fine("most() of " + text, x, x.most(), most);
        check.fine("lot() of " + text, x, x.lot(), lot);
    }

    private static void laterOn() {
        CoinsLaid x = check.on("table loses;board a wide 6 high 1;piece p block 2,1");
        x.puts(0);
        check.fine("lot() behind a lay", x, x.lot(), 1666666);
        check.fine("fewest() behind a lay", x, x.fewest(), 1);
        check.fine("most() behind a lay", x, x.most(), 2);
    }

    private static void withoutATable() {
        CoinsLaid x = new CoinsLaid();
        check.refused("fewest", x, x.fewest(), 1);
        check.refused("most", x, x.most(), 1);
        check.refused("lot", x, x.lot(), 1);
    }
}
