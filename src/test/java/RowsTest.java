/** Promises 29 to 32: rows of any length as heaps, and where their sizes come round. */
public final class RowsTest {
    private static final Check check = new Check("RowsTest");
    private static final CoinsLaid x = new CoinsLaid();

    public static void main(String[] args) throws Exception {
        check.runAll(RowsTest.class);
    }

    // ---- Promise 29: size

    static void promise29_rowsOfTwoSideBySide() {
        int[] two = {0, 0, 1, 1, 2, 0, 3, 1, 1, 0, 3, 3, 2, 2, 4, 0, 5, 2, 2, 3, 3, 0, 1, 1, 3, 0, 2, 1, 1, 0, 4, 5, 2, 7, 4};
        for (int n = 0; n < two.length; n++) {
            check.fine("size(" + n + ", 2)", x, x.size(n, 2), two[n]);
        }
    }

    static void promise29_allLengthsByAllWidths() {
        for (int k = 1; k <= 9; k++) {
            int[] due = sizes(k);
            for (int n = 0; n <= 200; n++) {
                check.due("size(" + n + ", " + k + ")", x.size(n, k), due[n]);
            }
        }
    }

    /** By the definition: the least number that no one lay makes of it. */
    private static int[] sizes(int k) {
        int[] sizes = new int[201];
        for (int n = k; n <= 200; n++) {
            java.util.Set<Integer> made = new java.util.HashSet<>();
            for (int left = 0; left + k <= n; left++) {
                made.add(sizes[left] ^ sizes[n - k - left]);
            }
            while (made.contains(sizes[n])) {
                sizes[n]++;
            }
        }
        return sizes;
    }

    static void promise29_tooShortForALay() {
        for (int k = 1; k <= 9; k++) {
            check.fine("size(0, " + k + ")", x, x.size(0, k), 0);
            check.fine("size(k - 1, " + k + ")", x, x.size(k - 1, k), 0);
            check.fine("size(k, " + k + ")", x, x.size(k, k), 1);
        }
    }

    static void promise29_theShortestAndTheLongest() {
        check.fine("size(0, 1)", x, x.size(0, 1), 0);
        check.fine("size(0, 9)", x, x.size(0, 9), 0);
        check.fine("size(200, 1)", x, x.size(200, 1), 0);
        check.fine("size(199, 1)", x, x.size(199, 1), 1);
        check.fine("size(200, 2)", x, x.size(200, 2), x.size(166, 2));
        check.fine("size(200, 9)", x, x.size(200, 9), sizes(9)[200]);
    }

    static void promise29_nTooSmallOrTooLarge() {
        check.refusedOutside("size(n, 2)", x, 0, 200, 2, n -> x.size(n, 2));
        check.refusedOutside("size(n, 9)", x, 0, 200, 2, n -> x.size(n, 9));
    }

    static void promise29_kTooSmallOrTooLarge() {
        check.refusedOutside("size(5, k)", x, 1, 9, 2, k -> x.size(5, k));
        check.refusedOutside("size(0, k)", x, 1, 9, 2, k -> x.size(0, k));
    }

    static void promise29_itNeedsNoTable() {
        CoinsLaid none = new CoinsLaid();
        check.fine("size(4, 2)", none, none.size(4, 2), 2);
    }

    // ---- Promise 30: rows

    static void promise30_whoeverIsNext() {
        check.fine("rows(4, 7, 10, 2): 2, 1, 3", x, x.rows(4, 7, 10, 2), 0);
        check.fine("rows(4, 7, 9, 2): 2, 1, 0", x, x.rows(4, 7, 9, 2), 1);
        check.fine("rows(1, 1, 1, 1)", x, x.rows(1, 1, 1, 1), 1);
        // the greatest is not what counts, nor the sum: 1, 1, 0
        check.fine("rows(2, 3, 0, 2)", x, x.rows(2, 3, 0, 2), 0);
        check.fine("rows(2, 0, 3, 2)", x, x.rows(2, 0, 3, 2), 0);
        check.fine("rows(0, 2, 3, 2)", x, x.rows(0, 2, 3, 2), 0);
        check.fine("rows(2, 0, 0, 2)", x, x.rows(2, 0, 0, 2), 1);
        check.fine("rows(0, 2, 0, 2)", x, x.rows(0, 2, 0, 2), 1);
        check.fine("rows(0, 0, 2, 2)", x, x.rows(0, 0, 2, 2), 1);
    }

    static void promise30_noneHasRoom() {
        check.fine("rows(0, 0, 0, 5)", x, x.rows(0, 0, 0, 5), 0);
        check.fine("rows(8, 8, 8, 9)", x, x.rows(8, 8, 8, 9), 0);
        check.fine("rows(8, 8, 9, 9)", x, x.rows(8, 8, 9, 9), 1);
    }

    static void promise30_theLongest() {
        check.fine("rows(200, 200, 0, 3)", x, x.rows(200, 200, 0, 3), 0);
        check.fine("rows(200, 200, 200, 3)", x, x.rows(200, 200, 200, 3), x.size(200, 3) == 0 ? 0 : 1);
        check.fine("rows(200, 199, 198, 1)", x, x.rows(200, 199, 198, 1), 1);
    }

    static void promise30_eachRowTooSmallOrTooLarge() {
        check.refusedOutside("rows(n, 0, 0, 2)", x, 0, 200, 2, n -> x.rows(n, 0, 0, 2));
        check.refusedOutside("rows(0, n, 0, 2)", x, 0, 200, 2, n -> x.rows(0, n, 0, 2));
        check.refusedOutside("rows(0, 0, n, 2)", x, 0, 200, 2, n -> x.rows(0, 0, n, 2));
    }

    static void promise30_kTooSmallOrTooLarge() {
        check.refusedOutside("rows(5, 5, 5, k)", x, 1, 9, 2, k -> x.rows(5, 5, 5, k));
        check.refusedOutside("rows(0, 0, 0, k)", x, 1, 9, 2, k -> x.rows(0, 0, 0, k));
    }

    // ---- Promise 31: rowLay

    static void promise31_theFirstSquare() {
        // of 6, two side by side: from 0 a row of 4, from 1 one of 1 and of 3, from 2 two of 2
        check.fine("rowLay(6, 2, 2)", x, x.rowLay(6, 2, 2), 0);
        check.fine("rowLay(6, 2, 1)", x, x.rowLay(6, 2, 1), 1);
        check.fine("rowLay(6, 2, 0)", x, x.rowLay(6, 2, 0), 2);
    }

    static void promise31_noneMakesIt() {
        check.fine("rowLay(6, 2, 3)", x, x.rowLay(6, 2, 3), -2);
        check.fine("rowLay(6, 2, 99)", x, x.rowLay(6, 2, 99), -2);
        for (int k = 1; k <= 9; k++) {
            check.fine("rowLay(200, " + k + ", its size)", x, x.rowLay(200, k, x.size(200, k)), -2);
        }
    }

    static void promise31_noRoomForALay() {
        check.fine("rowLay(0, 1, 0)", x, x.rowLay(0, 1, 0), -2);
        check.fine("rowLay(1, 2, 0)", x, x.rowLay(1, 2, 0), -2);
        check.fine("rowLay(8, 9, 0)", x, x.rowLay(8, 9, 0), -2);
        check.fine("rowLay(9, 9, 0)", x, x.rowLay(9, 9, 0), 0);
        check.fine("rowLay(1, 1, 0)", x, x.rowLay(1, 1, 0), 0);
    }

    static void promise31_ofTheLongest() {
        for (int k = 1; k <= 9; k++) {
            int[] sizes = sizes(k);
            for (int v = 0; v < 12; v++) {
                int due = -2;
                for (int left = 200 - k; left >= 0; left--) {
                    due = (sizes[left] ^ sizes[200 - k - left]) == v ? left : due;
                }
                check.due("rowLay(200, " + k + ", " + v + ")", x.rowLay(200, k, v), due);
            }
        }
    }

    static void promise31_nTooSmallOrTooLarge() {
        check.refusedOutside("rowLay(n, 2, 0)", x, 0, 200, 2, n -> x.rowLay(n, 2, 0));
    }

    static void promise31_kTooSmallOrTooLarge() {
        check.refusedOutside("rowLay(6, k, 0)", x, 1, 9, 2, k -> x.rowLay(6, k, 0));
    }

    static void promise31_vTooSmallOrTooLarge() {
        check.refusedOutside("rowLay(6, 2, v)", x, 0, 99, 2, v -> x.rowLay(6, 2, v));
        // also where no lay has room
        check.refusedOutside("rowLay(0, 2, v)", x, 0, 99, 2, v -> x.rowLay(0, 2, v));
    }

    // ---- Promise 32: round

    static void promise32_coinsComeRoundByTwo() {
        check.fine("round(1, false)", x, x.round(1, false), 2);
        check.fine("round(1, true): from 0 on", x, x.round(1, true), 0);
    }

    static void promise32_theLeastStart() {
        check.fine("round(2, false)", x, x.round(2, false), 34);
        check.fine("round(2, true)", x, x.round(2, true), 53);
        check.due("the size ahead of it is another one", x.size(52, 2) != x.size(52 + 34, 2), true);
    }

    static void promise32_theStartIs100AtMost() {
        // of 2 there is a lesser one than 34, but it starts at 185
        check.due("15 comes round at last", isRound(2, 15, 185), true);
        check.due("15 comes round from 184 on", isRound(2, 15, 184), false);
        check.due("15 comes round from 100 on", isRound(2, 15, 100), false);
        // of 3 one of 56, that starts at 144
        check.due("56 comes round at last", isRound(3, 56, 144), true);
        check.fine("round(3, false)", x, x.round(3, false), -2);
    }

    static void promise32_thePeriodIs60AtMost() {
        // of 3 one of 109 starts at 91
        check.due("109 comes round from 91 on", isRound(3, 109, 91), true);
        check.fine("round(3, false)", x, x.round(3, false), -2);
        check.fine("round(3, true)", x, x.round(3, true), -2);
    }

    static void promise32_allWidths() {
        for (int k = 1; k <= 9; k++) {
            int period = -2;
            for (int p = 60; p >= 1; p--) {
                period = isRound(k, p, 100) ? p : period;
            }
            int start = period == -2 ? -2 : 100;
            while (start > 0 && isRound(k, period, start - 1)) {
                start--;
            }
            check.fine("round(" + k + ", false)", x, x.round(k, false), period);
            check.fine("round(" + k + ", true)", x, x.round(k, true), start);
        }
    }

    private static boolean isRound(int k, int period, int start) {
        for (int n = start; n <= 200 - period; n++) {
            if (x.size(n, k) != x.size(n + period, k)) {
                return false;
            }
        }
        return true;
    }

    static void promise32_kTooSmallOrTooLarge() {
        check.refusedOutside("round(k, false)", x, 1, 9, 2, k -> x.round(k, false));
        check.refusedOutside("round(k, true)", x, 1, 9, 2, k -> x.round(k, true));
    }
}
