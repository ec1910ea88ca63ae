/** Promises 37 to 44: pieces laid, taken up, played, undone; the seed, images, what lies. */
public final class ActsTest {
    private static final Check check = new Check("ActsTest");
    private static final String ROW = "table loses;board a wide 5 high 1;piece p coin;piece q coin second";

    public static void main(String[] args) {
        puts();
        takes();
        plays();
        seed();
        undo();
        sixteenAreKept();
        images();
        led();
        withoutATable();
        check.end();
    }

    private static void puts() {
        CoinsLaid x = check.on(ROW);
        check.fine("puts(0)", x, x.puts(0));
        check.due("taken()", x.taken(), 1);
        check.due("told(6)", x.told(6), 1);
        check.due("told(7)", x.told(7), 1);
        check.refused("puts where one lies", x, x.puts(0), 5);
        check.refused("puts beyond", x, x.puts(10), 1);
        check.refused("puts(-1)", x, x.puts(-1), 1);
        check.fine("second's own", x, x.puts(6));
        check.refused("second's by first", x, x.puts(7), 5);
        check.due("taken() then", x.taken(), 3);
        check.due("told(9): refused ones are no acts", x.told(9), 2);
    }

    private static void takes() {
        CoinsLaid x = check.on(ROW + ";lay 3;lay 5");
        check.fine("takes()", x, x.takes(), 5);
        check.due("taken()", x.taken(), 8);
        check.due("told(7)", x.told(7), 1);
        check.fine("takes() of one told", x, x.takes(), 3);
        check.refused("takes() of none", x, x.takes(), 6);
        check.due("told(9)", x.told(9), 2);
        check.fine("undo()", x, x.undo());
        check.fine("undo() again", x, x.undo());
        check.due("led(0)", x.led(0), 3);
        check.due("led(1)", x.led(1), 5);
    }

    private static void plays() {
        CoinsLaid x = check.on(ROW);
        check.fine("plays of a drunk", x, x.plays(3), 74 % 5);
        check.due("SEED", x.told(8), 74);
        check.fine("plays of a landlord", x, x.plays(2), 0);
        check.due("SEED stays", x.told(8), 74);
        check.fine("plays of a child", x, x.plays(0), 1);
        check.due("taken()", x.taken(), 1 + 2 + 16);
        check.refused("plays(5)", x, x.plays(5), 1);
        check.refused("plays(-1)", x, x.plays(-1), 1);
        x.plays(4);
        x.plays(1);
        check.refused("plays if over", x, x.plays(3), 6);
        check.refused("plays(5) if over", x, x.plays(5), 1);
        check.due("SEED if over", x.told(8), 74);
        check.due("told(9)", x.told(9), 5);
    }

    private static void seed() {
        CoinsLaid x = check.on(ROW);
        check.fine("seed(65536)", x, x.seed(65536));
        check.due("told(8)", x.told(8), 65536);
        check.due("told(9): no act", x.told(9), 0);
        check.refused("seed(65537)", x, x.seed(65537), 2);
        check.refused("seed(-1)", x, x.seed(-1), 2);
        check.due("told(8) stays", x.told(8), 65536);
        check.fine("seed(0)", x, x.seed(0));
        check.due("told(8) anew", x.told(8), 0);
    }

    private static void undo() {
        CoinsLaid x = check.on(ROW + ";lay 0");
        check.refused("undo() of nothing", x, x.undo(), 6);
        x.seed(3);
        x.puts(1);
        x.seed(4);
        int drunk = x.plays(3);
        check.due("SEED drawn", x.told(8), 374);
        check.due("told(9)", x.told(9), 2);
        check.fine("undo() of a play", x, x.undo());
        check.due("taken()", x.taken(), 3);
        check.due("SEED undone", x.told(8), 4);
        check.due("the same again", x.plays(3), drunk);
        x.undo();
        check.fine("undo() of a lay", x, x.undo());
        check.due("taken() ahead of it", x.taken(), 1);
        check.due("SEED ahead of it", x.told(8), 3);
        check.due("told(9) ahead of it", x.told(9), 0);
        check.refused("undo() of what is told", x, x.undo(), 6);
    }

    private static void sixteenAreKept() {
        CoinsLaid x = check.on(ROW);
        x.puts(4);
        x.puts(3);
        for (int i = 0; i < 8; i++) {
            x.puts(0);
            x.takes();
        }
        check.due("told(9)", x.told(9), 16);
        x.puts(1);
        check.due("told(9) at most", x.told(9), 16);
        for (int i = 0; i < 16; i++) {
            check.fine("undo() " + i, x, x.undo());
            check.due("told(9) behind undo " + i, x.told(9), 15 - i);
        }
        check.due("what was 16 acts ago", x.taken(), 25);
        check.refused("undo() of the 17th", x, x.undo(), 6);
    }

    private static void images() {
        CoinsLaid x = check.on(ROW + ";lay 2");
        check.refused("back(0) of none", x, x.back(0), 1);
        x.puts(0);
        x.seed(7);
        check.fine("image()", x, x.image(), 0);
        check.due("told(9) stays", x.told(9), 1);
        x.puts(1);
        x.seed(8);
        check.fine("image() again", x, x.image(), 1);
        check.due("told(10)", x.told(10), 2);
        check.fine("back(0)", x, x.back(0));
        check.due("taken()", x.taken(), 5);
        check.due("SEED", x.told(8), 7);
        check.due("led(1)", x.led(1), 0);
        check.refused("undo() behind back()", x, x.undo(), 6);
        check.due("all images stay", x.told(10), 2);
        check.fine("back(1)", x, x.back(1));
        check.due("taken() by it", x.taken(), 7);
        check.refused("back(2)", x, x.back(2), 1);
        check.refused("back(-1)", x, x.back(-1), 1);
        check.fine("a third", x, x.image(), 2);
        check.refused("a fourth", x, x.image(), 3);
        x.puts(3);
        check.fine("undo() of what came behind back()", x, x.undo());
        check.fine("back(2)", x, x.back(2));
    }

    private static void led() {
        CoinsLaid x = check.on(ROW + ";lay 2;lay 8");
        check.due("led(0)", x.led(0), 2);
        check.due("led(1)", x.led(1), 8);
        check.due("led(2) throws", Check.ledThrows(x, 2), true);
        check.due("led(-1) throws", Check.ledThrows(x, -1), true);
        check.due("led(MAX) throws", Check.ledThrows(x, Integer.MAX_VALUE), true);
        x.takes();
        check.due("led(1) throws then", Check.ledThrows(x, 1), true);
    }

    private static void withoutATable() {
        CoinsLaid x = new CoinsLaid();
        check.refused("puts", x, x.puts(0), 1);
        check.refused("takes", x, x.takes(), 1);
        check.refused("plays", x, x.plays(0), 1);
        check.refused("seed", x, x.seed(0), 1);
        check.refused("seed(-1)", x, x.seed(-1), 1);
        check.refused("undo", x, x.undo(), 6);
        check.refused("image", x, x.image(), 1);
        check.refused("back", x, x.back(0), 1);
        check.due("led throws", Check.ledThrows(x, 0), true);
    }
}
