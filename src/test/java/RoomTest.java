import java.lang.management.ManagementFactory;

/**
 * All calls of a run share one room of some 7.3 million fields and elements: the bytes that a long run
 * asks of this machine must stay far below that, and the calls that only look must make nothing.
 */
public final class RoomTest {
    private static final Check check = new Check("RoomTest");
    private static final com.sun.management.ThreadMXBean BEAN =
            (com.sun.management.ThreadMXBean) ManagementFactory.getThreadMXBean();
    private static final String LARGE = "table loses;board a wide 4 high 3;board b wide 2 high 1;"
            + "piece p corner 2,2 turns;piece q corner 2,2 turns first;piece r coin;piece s block 2,1 turns";

    public static void main(String[] args) {
        long ahead = bytes();
        CoinsLaid first = new CoinsLaid();
        Check.tell(first, LARGE);
        askAll(first);
        check.due("a large table's bytes are less than 3 millions", bytes() - ahead < 3000000, true);

        // a few bytes are this machine's own; a call that made an object would make a hundred here
        ahead = bytes();
        for (int i = 0; i < 100; i++) {
            askAll(first);
        }
        check.due("bytes of all looks a hundred times more are less than 1000", bytes() - ahead < 1000, true);

        // another table of the same size: its lays are new, the rows are used again
        for (int i = 0; i < 10; i++) {
            Check.feed(first, LARGE);
            ahead = bytes();
            first.table(LARGE.length());
            askAll(first);
            check.due("bytes of the same table again are less than 40 thousands", bytes() - ahead < 40000, true);
        }

        ahead = bytes();
        for (int i = 0; i < 200; i++) {
            act(first);
        }
        check.due("bytes of two hundred acts are less than 1000", bytes() - ahead < 1000, true);
        growingTables();
        check.end();
    }

    private static void act(CoinsLaid x) {
        x.puts(x.layAt(0));
        x.plays(3);
        x.takes();
        x.undo();
        x.image();
        x.back(0);
    }

    /** Tables of 1 to 14 squares, each larger than the one ahead of it: the dearest way to use one object. */
    private static void growingTables() {
        CoinsLaid x = new CoinsLaid();
        String[] sizes = {"wide 1 high 1", "wide 2 high 1", "wide 3 high 1", "wide 4 high 1", "wide 5 high 1",
            "wide 6 high 1", "wide 7 high 1", "wide 8 high 1", "wide 3 high 3", "wide 5 high 2", "wide 6 high 2",
            "wide 7 high 2"};
        long ahead = bytes();
        for (String size : sizes) {
            Check.tell(x, "table wins;board a " + size + ";piece p coin");
            askAll(x);
        }
        check.due("growing tables' bytes are less than 6 millions", bytes() - ahead < 6000000, true);
    }

    private static void askAll(CoinsLaid x) {
        x.lays();
        x.layAt(3);
        x.across(1);
        x.dead();
        x.has();
        x.best();
        x.good();
        x.soonest();
        x.ways();
        x.heap(-1);
        x.byAcross();
        x.half(0);
        x.spoils(0);
        x.open(0);
        x.elbow();
        x.lot();
        x.size(200, 5);
        x.round(7, true);
        x.would(4);
        x.beats(3);
        x.told(3);
        x.puts(x.layAt(0));
        x.led(0);
        x.takes();
    }

    private static long bytes() {
        return BEAN.getThreadAllocatedBytes(Thread.currentThread().getId());
    }
}
