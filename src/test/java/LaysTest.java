/** Promises 6 to 13: lays, which may be, what is taken and what is dead. */
public final class LaysTest {
    private static final Check check = new Check("LaysTest");
    /** Squares of a: 0 1 2 / 3 4 5; of b: 6 7 / 8 and a jug at 9. */
    private static final String TWO = "table loses;board a wide 3 high 2;board b wide 2 high 2;jug b 1,1;"
            + "piece m block 2,1 turns;piece c coin second";
    private static final String APART = "table loses apart;board a wide 3 high 2;board b wide 2 high 1;"
            + "piece p coin;piece f coin first;piece s coin second";

    public static void main(String[] args) {
        parts();
        shapes();
        numbersOfPlaces();
        mayBe();
        apart();
        turnedHalfRound();
        takenAndDead();
        withoutATable();
        check.end();
    }

    private static void parts() {
        CoinsLaid x = check.on(TWO);
        int[][] due = {
            {0, 0, 0, 0, 0, 3}, {0, 0, 0, 0, 1, 9}, {0, 0, 1, 0, 0, 6}, {0, 0, 1, 0, 1, 18}, {0, 0, 2, 0, 1, 36},
            {0, 0, 0, 1, 0, 24}, {0, 0, 1, 1, 0, 48}, {0, 1, 0, 0, 0, 192}, {0, 1, 0, 0, 1, 320},
            {1, 0, 0, 0, 0, 1}, {1, 0, 1, 0, 0, 2}, {1, 0, 2, 0, 0, 4}, {1, 0, 0, 1, 0, 8}, {1, 0, 1, 1, 0, 16},
            {1, 0, 2, 1, 0, 32}, {1, 1, 0, 0, 0, 64}, {1, 1, 1, 0, 0, 128}, {1, 1, 0, 1, 0, 256}};
        for (int l = 0; l < due.length; l++) {
            for (int what = 0; what < 6; what++) {
                check.fine("lay(" + l + ", " + what + ")", x, x.lay(l, what), due[l][what]);
            }
            check.fine("layOf of " + l, x, x.layOf(due[l][0], due[l][1], due[l][2], due[l][3], due[l][4]), l);
        }
        check.refused("lay(18, 0)", x, x.lay(18, 0), 1);
        check.refused("lay(-1, 0)", x, x.lay(-1, 0), 1);
        check.refused("lay(0, 6)", x, x.lay(0, 6), 1);
        check.refused("lay(0, -1)", x, x.lay(0, -1), 1);
    }

    private static void shapes() {
        String board = "table loses;board a wide 3 high 3;piece p ";
        squares(board + "corner 3,3", 255);
        squares(board + "corner 3,3 turns", 255, 447, 510, 507);
        squares(board + "corner 3,2", 31, 248);
        // the lays of one upper left corner by turns, then the next: 3 wide, 2 high in turns 0 and 2
        squares(board + "corner 3,2 turns", 31, 155, 62, 217, 310, 434, 248, 496);
        squares(board + "block 3,3 turns", 511);
        squares(board + "block 3,1 turns", 7, 73, 146, 292, 56, 448);
        squares(board + "block 1,3 turns", 73, 7, 146, 292, 56, 448);
        squares(board + "block 4,1 turns");
        squares(board + "coin turns", 1, 2, 4, 8, 16, 32, 64, 128, 256);
        squares(board + "block 3,2;jug a 1,0", 504);
        squares("table loses;board a wide 2 high 2;board b wide 2 high 2;piece p corner 2,2 turns;piece q block 2,2",
                7, 11, 14, 13, 7 << 4, 11 << 4, 14 << 4, 13 << 4, 15, 15 << 4);
    }

    private static void squares(String text, int... due) {
        CoinsLaid x = new CoinsLaid();
        check.due("table of " + text, Check.tell(x, text), due.length);
        for (int l = 0; l < due.length; l++) {
            check.due("lay(" + l + ", 5) of " + text, x.lay(l, 5), due[l]);
        }
    }

    private static void numbersOfPlaces() {
        CoinsLaid x = check.on(TWO);
        check.fine("layOf on a jug", x, x.layOf(1, 1, 1, 1, 0), -2);
        check.fine("layOf over the edge", x, x.layOf(0, 0, 2, 0, 0), -2);
        check.fine("layOf of a like turn", x, x.layOf(0, 0, 0, 0, 2), -2);
        check.fine("layOf off the board", x, x.layOf(1, 0, -1, Integer.MAX_VALUE, 3), -2);
        check.refused("layOf(2, ..)", x, x.layOf(2, 0, 0, 0, 0), 1);
        check.refused("layOf(-1, ..)", x, x.layOf(-1, 0, 0, 0, 0), 1);
        check.refused("layOf(0, 2, ..)", x, x.layOf(0, 2, 0, 0, 0), 1);
        check.refused("layOf(0, -1, ..)", x, x.layOf(0, -1, 0, 0, 0), 1);
        check.refused("layOf(.., 4)", x, x.layOf(0, 0, 0, 0, 4), 2);
        check.refused("layOf(.., -1)", x, x.layOf(0, 0, 0, 0, -1), 2);
        check.refused("layOf(2, .., 4)", x, x.layOf(2, 0, 0, 0, 4), 1);
    }

    private static void mayBe() {
        CoinsLaid x = check.on(TWO);
        check.fine("lays()", x, x.lays(), 9);
        for (int i = 0; i < 9; i++) {
            check.fine("layAt(" + i + ")", x, x.layAt(i), i);
        }
        check.refused("layAt(9)", x, x.layAt(9), 1);
        check.refused("layAt(-1)", x, x.layAt(-1), 1);
        check.fine("may of second's", x, x.may(9), 0);
        x.puts(0);
        check.fine("may of one laid", x, x.may(0), 0);
        check.fine("may(2) where one lies", x, x.may(2), 0);
        check.fine("may(5)", x, x.may(5), 1);
        check.fine("may of second's own now", x, x.may(11), 1);
        check.fine("may where one lies", x, x.may(10), 0);
        check.fine("lays() then", x, x.lays(), 5 + 7);
        check.fine("layAt(0) then", x, x.layAt(0), 4);
        check.fine("layAt(11) then", x, x.layAt(11), 17);
        check.refused("may(18)", x, x.may(18), 1);
        check.refused("may(-1)", x, x.may(-1), 1);
    }

    private static void apart() {
        CoinsLaid x = check.on(APART);
        x.puts(x.layOf(0, 0, 0, 0, 0));
        check.due("beside at the right", x.may(1), 0);
        check.due("beside below", x.may(3), 0);
        check.due("over the corner", x.may(4), 1);
        check.due("two away", x.may(2), 1);
        check.due("another board", x.may(6), 1);
        check.due("first's while second is next", x.may(8 + 4), 0);
        check.due("second's", x.may(16 + 4), 1);
        check.due("lays()", x.lays(), 5 + 5);
        // the right end of a row and the left end of the next one do not touch
        x.undo();
        x.puts(x.layOf(0, 0, 2, 0, 0));
        check.due("next row", x.may(3), 1);
        check.due("below", x.may(5), 0);
    }

    private static void turnedHalfRound() {
        CoinsLaid x = check.on(TWO);
        int[] due = {6, 4, 5, 3, 1, 2, 0, -2, -2, 14, 13, 12, 11, 10, 9, -2, 17, 16};
        for (int l = 0; l < due.length; l++) {
            check.fine("across(" + l + ")", x, x.across(l), due[l]);
        }
        check.refused("across(18)", x, x.across(18), 1);
        check.refused("across(-1)", x, x.across(-1), 1);
        CoinsLaid corner = check.on("table loses;board a wide 2 high 2;piece p corner 2,2;piece q corner 2,2 turns");
        check.fine("across of a corner that does not turn", corner, corner.across(0), -2);
        check.fine("across of one that does", corner, corner.across(1), 3);
        check.fine("across of another", corner, corner.across(4), 2);
    }

    private static void takenAndDead() {
        CoinsLaid x = check.on(TWO);
        check.fine("taken()", x, x.taken(), 0);
        check.fine("dead()", x, x.dead(), 0);
        x.puts(7);
        check.fine("taken() of b", x, x.taken(), 192);
        // the other one's coins still go on square 8
        check.fine("dead() with second's coins", x, x.dead(), 0);
        CoinsLaid only = check.on("table loses;board a wide 5 high 1;jug a 4,0;piece m block 2,1;lay 1");
        check.fine("dead() at both sides, no jug", only, only.dead(), 9);
        CoinsLaid apart = check.on("table loses apart;board a wide 3 high 1;piece c coin;lay 0");
        check.fine("dead() beside", apart, apart.dead(), 2);
        CoinsLaid none = check.on("table loses;board a wide 2 high 2;piece m block 3,1");
        check.fine("dead() of all", none, none.dead(), 15);
        CoinsLaid full = check.on("table loses;board a wide 7 high 2;piece c coin;lay 13");
        check.fine("taken() of the last", full, full.taken(), 1 << 13);
    }

    private static void withoutATable() {
        CoinsLaid x = new CoinsLaid();
        check.refused("lay", x, x.lay(0, 0), 1);
        check.refused("layOf", x, x.layOf(0, 0, 0, 0, 0), 1);
        check.refused("may", x, x.may(0), 1);
        check.refused("lays", x, x.lays(), 1);
        check.refused("layAt", x, x.layAt(0), 1);
        check.refused("across", x, x.across(0), 1);
        check.refused("taken", x, x.taken(), 1);
        check.refused("dead", x, x.dead(), 1);
    }
}
