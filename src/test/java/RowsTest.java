/** Promises 29 to 32: rows of any length as heaps, and where their sizes come round. */
public final class RowsTest {
    private static final Check check = new Check("RowsTest");
    private static final int MIN = Integer.MIN_VALUE;
    private static final int MAX = Integer.MAX_VALUE;
    private static final CoinsLaid x = new CoinsLaid();

    public static void main(String[] args) {
        sizes();
        threeRows();
        lays();
        rounds();
        check.end();
    }

    private static void sizes() {
        int[] two = {0, 0, 1, 1, 2, 0, 3, 1, 1, 0, 3, 3, 2, 2, 4, 0, 5, 2, 2, 3, 3, 0, 1, 1, 3, 0, 2, 1, 1, 0, 4, 5, 2, 7, 4};
        for (int n = 0; n < two.length; n++) {
            check.fine("size(" + n + ", 2)", x, x.size(n, 2), two[n]);
        }
        for (int n = 0; n <= 200; n++) {
            check.due("size(" + n + ", 1)", x.size(n, 1), n & 1);
            check.due("size(" + n + ", 9) of less than 9", x.size(n, 9) > 0, n > 8 && x.size(n, 9) != 0);
        }
        for (int k = 1; k <= 9; k++) {
            check.fine("size(k, k)", x, x.size(k, k), 1);
            check.fine("size(k - 1, k)", x, x.size(k - 1, k), 0);
            check.fine("size(2k, k)", x, x.size(2 * k, k), k == 1 ? 0 : 2);
        }
        check.refused("size(-1, 2)", x, x.size(-1, 2), 2);
        check.refused("size(201, 2)", x, x.size(201, 2), 2);
        check.refused("size(5, 0)", x, x.size(5, 0), 2);
        check.refused("size(5, 10)", x, x.size(5, 10), 2);
        check.refused("size(MIN, MIN)", x, x.size(MIN, MIN), 2);
        check.refused("size(MAX, MAX)", x, x.size(MAX, MAX), 2);
    }

    private static void threeRows() {
        check.fine("rows(4, 7, 10, 2): 2, 1, 3", x, x.rows(4, 7, 10, 2), 0);
        check.fine("rows(4, 7, 9, 2): 2, 1, 0", x, x.rows(4, 7, 9, 2), 1);
        check.fine("rows(0, 0, 0, 5)", x, x.rows(0, 0, 0, 5), 0);
        check.fine("rows(200, 200, 0, 3)", x, x.rows(200, 200, 0, 3), 0);
        check.fine("rows(1, 1, 1, 1)", x, x.rows(1, 1, 1, 1), 1);
        check.refused("rows(201, ..)", x, x.rows(201, 0, 0, 2), 2);
        check.refused("rows(.., 201, ..)", x, x.rows(0, 201, 0, 2), 2);
        check.refused("rows(.., 201, k)", x, x.rows(0, 0, 201, 2), 2);
        check.refused("rows(-1, ..)", x, x.rows(-1, 0, 0, 2), 2);
        check.refused("rows(.., -1, ..)", x, x.rows(0, -1, 0, 2), 2);
        check.refused("rows(.., -1, k)", x, x.rows(0, 0, -1, 2), 2);
        check.refused("rows(.., 0)", x, x.rows(0, 0, 0, 0), 2);
        check.refused("rows(.., 10)", x, x.rows(0, 0, 0, 10), 2);
    }

    private static void lays() {
        // of 6, two side by side: from 0 a row of 4, from 1 one of 1 and of 3, from 2 two of 2
        check.fine("rowLay(6, 2, 2)", x, x.rowLay(6, 2, 2), 0);
        check.fine("rowLay(6, 2, 1)", x, x.rowLay(6, 2, 1), 1);
        check.fine("rowLay(6, 2, 0)", x, x.rowLay(6, 2, 0), 2);
        check.fine("rowLay(6, 2, 3)", x, x.rowLay(6, 2, 3), -2);
        check.fine("rowLay(1, 2, 0)", x, x.rowLay(1, 2, 0), -2);
        check.fine("rowLay(0, 1, 0)", x, x.rowLay(0, 1, 0), -2);
        check.fine("rowLay(9, 9, 0)", x, x.rowLay(9, 9, 0), 0);
        check.fine("rowLay(200, 2, 99)", x, x.rowLay(200, 2, 99), -2);
        check.refused("rowLay(6, 2, 100)", x, x.rowLay(6, 2, 100), 2);
        check.refused("rowLay(6, 2, -1)", x, x.rowLay(6, 2, -1), 2);
        check.refused("rowLay(201, 2, 0)", x, x.rowLay(201, 2, 0), 2);
        check.refused("rowLay(-1, 2, 0)", x, x.rowLay(-1, 2, 0), 2);
        check.refused("rowLay(6, 0, 0)", x, x.rowLay(6, 0, 0), 2);
        check.refused("rowLay(6, 10, 0)", x, x.rowLay(6, 10, 0), 2);
        check.refused("rowLay(MAX, 2, 0)", x, x.rowLay(MAX, 2, 0), 2);
    }

    private static void rounds() {
        check.fine("round(1, false)", x, x.round(1, false), 2);
        check.fine("round(1, true)", x, x.round(1, true), 0);
        // the last sizes out of the round of 34 are those of n = 52 and less
        check.fine("round(2, false)", x, x.round(2, false), 34);
        check.fine("round(2, true)", x, x.round(2, true), 53);
        for (int k = 1; k <= 9; k++) {
            int p = x.round(k, false);
            int start = x.round(k, true);
            check.due("both or none of " + k, p == -2, start == -2);
            check.due("the round of " + k + " is one", p == -2 || isRound(k, p, start), true);
            check.due("its start is the least", p == -2 || start == 0 || !isRound(k, p, start - 1), true);
            for (int less = 1; less <= 60 && (p == -2 || less < p); less++) {
                check.due("no lesser round of " + k, isRound(k, less, 100), false);
            }
        }
        check.refused("round(0, false)", x, x.round(0, false), 2);
        check.refused("round(10, true)", x, x.round(10, true), 2);
        check.refused("round(MIN, true)", x, x.round(MIN, true), 2);
    }

    private static boolean isRound(int k, int period, int start) {
        for (int n = start; n <= 200 - period; n++) {
            if (x.size(n, k) != x.size(n + period, k)) {
                return false;
            }
        }
        return start <= 100;
    }
}
