/** Promises 1 to 7 and 19: rows, summaries, and what is told of them. */
public final class RowsTest {
    private static final Check check = new Check();
    private static final int M = Check.MISSING, NONE = Check.NONE, GONE = Check.GONE;
    private static final int[] NO_BLOCKS = {-1, 6, 7, Integer.MIN_VALUE, Integer.MAX_VALUE};
    private static final int[] NO_COLUMNS = {-1, 4, 5, Integer.MIN_VALUE, Integer.MAX_VALUE};

    public static void main(String[] args) {
        promise1New();
        promise2Add();
        promise3Drop();
        promise4Anew();
        promise5Cell();
        promise6Summary();
        promise6Stale();
        promise6StaleAtOneEnd();
        promise7Listed();
        promise7Lost();
        promise19Told();
        check.end("RowsTest");
    }

    private static void promise1New() {
        BlockTruths x = new BlockTruths();
        check.due("1 told(0)", x.told(0), 0);
        check.due("1 told(1)", x.told(1), 0);
        check.due("1 fault()", x.fault(), 0);
        for (int b = 0; b < 6; b++) {
            check.due("1 rows", x.told(10 + b), 0);
            check.due("1 unlike rows", x.told(20 + b), 0);
            for (int c = 0; c < 4; c++) {
                checkSummary("1", x, b, c, new int[] {NONE, NONE, 0, 0, 0});
            }
        }
        check.due("1 restore(0)", x.restore(0), Check.STATE);
        check.due("1 restore(1)", x.restore(1), Check.STATE);
    }

    private static void promise2Add() {
        BlockTruths x = new BlockTruths();
        for (int b : NO_BLOCKS) {
            check.due("2 no block " + b, x.add(b, 0, 0, 0, 0), Check.UNKNOWN);
            check.due("2 no block, and a number outside", x.add(b, 1001, 0, 0, 0), Check.UNKNOWN);
        }
        int[] outside = {-1000, 1001, Integer.MIN_VALUE, Integer.MAX_VALUE};
        for (int n : outside) {
            check.due("2 a " + n, x.add(0, n, 0, 0, 0), Check.OUTSIDE);
            check.due("2 b " + n, x.add(0, 0, n, 0, 0), Check.OUTSIDE);
            check.due("2 c " + n, x.add(0, 0, 0, n, 0), Check.OUTSIDE);
            check.due("2 d " + n, x.add(0, 0, 0, 0, n), Check.OUTSIDE);
        }
        check.due("2 nothing came", x.told(1), 0);
        for (int r = 1; r <= 8; r++) {
            check.due("2 row " + r, x.add(5, -999, 999, M, r), r);
        }
        check.due("2 full", x.add(5, 0, 0, 0, 0), Check.FULL);
        check.due("2 full, but outside is first", x.add(5, 0, 0, 0, 1001), Check.OUTSIDE);
        check.due("2 full changes nothing", x.summary(5, 0, 1), -999);
        check.due("2 full changes no list", x.summary(5, 0, 3), 1);
        check.due("2 others have room", x.add(0, 0, 0, 0, 0), 1);
        check.due("2 behind all", x.cell(5, 7, 3), 8);
    }

    private static void promise3Drop() {
        BlockTruths x = new BlockTruths();
        for (int r = 0; r < 5; r++) {
            x.add(2, r, 10 + r, M, -r);
        }
        for (int b : NO_BLOCKS) {
            check.due("3 no block", x.drop(b, 0), Check.UNKNOWN);
        }
        check.due("3 no row -1", x.drop(2, -1), Check.UNKNOWN);
        check.due("3 no row 5", x.drop(2, 5), Check.UNKNOWN);
        check.due("3 no row at all", x.drop(3, 0), Check.UNKNOWN);
        check.due("3 no row MAX", x.drop(2, Integer.MAX_VALUE), Check.UNKNOWN);
        check.due("3 from the midst", x.drop(2, 1), 4);
        int[] left = {0, 2, 3, 4};
        for (int r = 0; r < 4; r++) {
            check.due("3 a of row " + r, x.cell(2, r, 0), left[r]);
            check.due("3 d of row " + r, x.cell(2, r, 3), -left[r]);
        }
        check.due("3 the last one", x.drop(2, 3), 3);
        check.due("3 no longer there", x.drop(2, 3), Check.UNKNOWN);
        check.due("3 the first one", x.drop(2, 0), 2);
        check.due("3 now first", x.cell(2, 0, 1), 12);
        check.due("3 missing go too", x.summary(2, 2, 2), 2);
        check.due("3", x.drop(2, 0), 1);
        check.due("3 the last of all", x.drop(2, 0), 0);
        check.due("3 room again", x.add(2, 1, 1, 1, 1), 1);
        dropFromFull();
    }

    private static void dropFromFull() {
        BlockTruths x = new BlockTruths();
        for (int r = 0; r < 8; r++) {
            x.add(5, r, r, r, r);
        }
        check.due("3 no ninth", x.drop(5, 8), Check.UNKNOWN);
        check.due("3 the first of eight", x.drop(5, 0), 7);
        check.due("3 all are further ahead", x.cell(5, 6, 3), 7);
        check.due("3 room for one", x.add(5, 9, 9, 9, 9), 8);
        check.due("3 the last of eight", x.drop(5, 7), 7);
        check.due("3 it was the one that came", x.cell(5, 6, 0), 7);
        check.due("3 no eighth", x.cell(5, 7, 0), GONE + Check.UNKNOWN);
    }

    private static void promise4Anew() {
        BlockTruths x = new BlockTruths();
        for (int b : NO_BLOCKS) {
            check.due("4 no block", x.anew(b), Check.UNKNOWN);
        }
        check.due("4 nothing there", x.anew(0), 0);
        x.add(0, 1, 5, 7, M);
        x.add(0, 2, 5, M, 3);
        x.add(0, 3, 5, 7, M);
        check.due("4 none stale", x.anew(0), 0);
        x.drop(0, 1);
        // a: 2 went from the midst, so only the list tells; d: all its numbers went
        checkSummary("4", x, 0, 0, new int[] {1, 3, 0, 3, 1});
        checkSummary("4", x, 0, 1, new int[] {5, 5, 0, 1, 0});
        checkSummary("4", x, 0, 2, new int[] {7, 7, 0, 1, 0});
        checkSummary("4", x, 0, 3, new int[] {3, 3, 2, 1, 1});
        check.due("4 two stale", x.anew(0), 2);
        checkSummary("4", x, 0, 0, new int[] {1, 3, 0, 2, 0});
        checkSummary("4", x, 0, 3, new int[] {NONE, NONE, 2, 0, 0});
        check.due("4 no longer", x.anew(0), 0);
        x.drop(0, 0);
        x.drop(0, 0);
        check.due("4 of no rows", x.anew(0), 3);
        checkSummary("4", x, 0, 1, new int[] {NONE, NONE, 0, 0, 0});
        anewOrdersTheList();
    }

    /** The order of the list changes although nothing was stale. */
    private static void anewOrdersTheList() {
        BlockTruths x = new BlockTruths();
        x.add(1, 1, 0, 0, 0);
        x.add(1, 2, 0, 0, 0);
        x.drop(1, 0);
        x.add(1, 1, 0, 0, 0);
        check.due("4 order before", x.listed(1, 0, 0, 0), 1);
        check.due("4 not stale", x.summary(1, 0, 4), 0);
        check.due("4 none stale", x.anew(1), 0);
        check.due("4 order by place", x.listed(1, 0, 0, 0), 2);
        check.due("4 order by place", x.listed(1, 0, 1, 0), 1);
    }

    private static void promise5Cell() {
        BlockTruths x = new BlockTruths();
        x.add(4, -999, 999, M, 0);
        int[] cells = {-999, 999, M, 0};
        for (int c = 0; c < 4; c++) {
            check.due("5 cell " + c, x.cell(4, 0, c), cells[c]);
        }
        for (int b : NO_BLOCKS) {
            check.due("5 no block", x.cell(b, 0, 0), GONE + Check.UNKNOWN);
        }
        for (int c : NO_COLUMNS) {
            check.due("5 no column", x.cell(4, 0, c), GONE + Check.UNKNOWN);
        }
        check.due("5 no row", x.cell(4, 1, 0), GONE + Check.UNKNOWN);
        check.due("5 no row", x.cell(4, -1, 0), GONE + Check.UNKNOWN);
        check.due("5 no row", x.cell(4, Integer.MIN_VALUE, 0), GONE + Check.UNKNOWN);
        check.due("5 no rows", x.cell(0, 0, 0), GONE + Check.UNKNOWN);
    }

    private static void promise6Summary() {
        BlockTruths x = new BlockTruths();
        x.add(3, 4, -4, M, 9);
        x.add(3, 6, -6, M, M);
        x.add(3, 5, -5, 0, 9);
        checkSummary("6", x, 3, 0, new int[] {4, 6, 0, 3, 0});
        checkSummary("6", x, 3, 1, new int[] {-6, -4, 0, 3, 0});
        checkSummary("6", x, 3, 2, new int[] {0, 0, 2, 1, 0});
        checkSummary("6", x, 3, 3, new int[] {9, 9, 1, 1, 0});
        for (int b : NO_BLOCKS) {
            check.due("6 no block", x.summary(b, 0, 0), GONE + Check.UNKNOWN);
            check.due("6 no block, what outside", x.summary(b, 0, 5), GONE + Check.UNKNOWN);
        }
        for (int c : NO_COLUMNS) {
            check.due("6 no column", x.summary(3, c, 0), GONE + Check.UNKNOWN);
            check.due("6 no column, what outside", x.summary(3, c, -1), GONE + Check.UNKNOWN);
        }
        check.due("6 what -1", x.summary(3, 0, -1), GONE + Check.OUTSIDE);
        check.due("6 what 5", x.summary(3, 0, 5), GONE + Check.OUTSIDE);
        check.due("6 what MAX", x.summary(3, 0, Integer.MAX_VALUE), GONE + Check.OUTSIDE);
    }

    private static void promise6Stale() {
        BlockTruths x = new BlockTruths();
        for (int n : new int[] {1, 2, 3, 4, 5, 6}) {
            x.add(0, n, 0, 0, 0);
        }
        checkSummary("6 lost", x, 0, 0, new int[] {1, 6, 0, NONE, 0});
        x.drop(0, 2);
        // five numbers are left: it would be LOST again, and the ends are there still
        checkSummary("6 lost both ways", x, 0, 0, new int[] {1, 6, 0, NONE, 0});
        x.drop(0, 2);
        checkSummary("6 no longer lost", x, 0, 0, new int[] {1, 6, 0, NONE, 1});
        x.add(0, 9, 0, 0, 0);
        checkSummary("6 lost anyway", x, 0, 0, new int[] {1, 9, 0, NONE, 0});
        x.drop(0, 0);
        checkSummary("6 the least went", x, 0, 0, new int[] {1, 9, 0, NONE, 1});
        x.add(0, 1, 0, 0, 0);
        checkSummary("6 it came again", x, 0, 0, new int[] {1, 9, 0, NONE, 0});
        x.anew(0);
        x.drop(0, 3);
        checkSummary("6 the greatest went", x, 0, 0, new int[] {1, 9, 0, NONE, 1});
        x.add(0, M, 0, 0, 0);
        x.drop(0, 4);
        checkSummary("6 what is missing makes nothing stale", x, 0, 1, new int[] {0, 0, 0, 1, 0});
    }

    /** The list would be lost anyway, so only one end tells. */
    private static void promise6StaleAtOneEnd() {
        BlockTruths x = new BlockTruths();
        for (int n : new int[] {1, 2, 3, 4, 5, 6, 7}) {
            x.add(0, n, -n, 0, 0);
        }
        x.drop(0, 0);
        checkSummary("6 the least went", x, 0, 0, new int[] {1, 7, 0, NONE, 1});
        checkSummary("6 the greatest went", x, 0, 1, new int[] {-7, -1, 0, NONE, 1});
        check.due("6 both are stale", x.anew(0), 2);
        checkSummary("6 anew", x, 0, 0, new int[] {2, 7, 0, NONE, 0});
        checkSummary("6 anew", x, 0, 1, new int[] {-7, -2, 0, NONE, 0});
    }

    private static void promise7Listed() {
        BlockTruths x = new BlockTruths();
        x.add(0, 7, M, 0, 0);
        x.add(0, -7, M, 0, 0);
        x.add(0, 7, M, 0, 0);
        checkListed("7", x, 0, 0, new int[] {7, 2, -7, 1});
        checkListed("7 missing is no number", x, 0, 1, new int[] {});
        x.drop(0, 1);
        checkListed("7 none has it", x, 0, 0, new int[] {7, 2, -7, 0});
        x.add(0, -7, 1, 0, 0);
        checkListed("7 it is there again, at its place", x, 0, 0, new int[] {7, 2, -7, 1});
        for (int b : NO_BLOCKS) {
            check.due("7 no block", x.listed(b, 0, 0, 0), GONE + Check.UNKNOWN);
            check.due("7 no block, what outside", x.listed(b, 0, 0, 2), GONE + Check.UNKNOWN);
        }
        for (int c : NO_COLUMNS) {
            check.due("7 no column", x.listed(0, c, 0, 0), GONE + Check.UNKNOWN);
        }
        check.due("7 what -1", x.listed(0, 0, 0, -1), GONE + Check.OUTSIDE);
        check.due("7 what 2", x.listed(0, 0, 0, 2), GONE + Check.OUTSIDE);
        check.due("7 no such one, what outside", x.listed(0, 0, 9, 2), GONE + Check.OUTSIDE);
        for (int i : new int[] {-1, 2, 4, Integer.MIN_VALUE, Integer.MAX_VALUE}) {
            check.due("7 no " + i, x.listed(0, 0, i, 0), NONE);
            check.due("7 no " + i, x.listed(0, 0, i, 1), NONE);
        }
    }

    private static void promise7Lost() {
        BlockTruths x = new BlockTruths();
        for (int n : new int[] {5, 4, 3, 2}) {
            x.add(0, n, 0, 0, 0);
        }
        checkListed("7 four", x, 0, 0, new int[] {5, 1, 4, 1, 3, 1, 2, 1});
        x.add(0, 4, 0, 0, 0);
        checkListed("7 no fifth", x, 0, 0, new int[] {5, 1, 4, 2, 3, 1, 2, 1});
        x.drop(0, 0);
        x.add(0, 1, 0, 0, 0);
        // a fifth came, though but four are there: those that went count too
        check.due("7 lost", x.summary(0, 0, 3), NONE);
        checkListed("7 lost", x, 0, 0, new int[] {});
        x.drop(0, 0);
        x.add(0, 4, 0, 0, 0);
        check.due("7 still lost", x.listed(0, 0, 0, 0), NONE);
        x.anew(0);
        checkListed("7 anew", x, 0, 0, new int[] {3, 1, 2, 1, 4, 2, 1, 1});
    }

    private static void promise19Told() {
        BlockTruths x = new BlockTruths();
        x.add(0, 1, 2, 3, 4);
        x.add(0, 1, 2, 3, 4);
        x.add(0, 1, 2, 3, M);
        x.add(0, M, 2, 3, M);
        x.add(5, 1, 2, 3, 4);
        x.say('<');
        check.due("19 signs", x.told(0), 1);
        check.due("19 all rows", x.told(1), 5);
        check.due("19 rows of 0", x.told(10), 4);
        check.due("19 rows of 4", x.told(14), 0);
        check.due("19 rows of 5", x.told(15), 1);
        check.due("19 unlike in 0", x.told(20), 3);
        check.due("19 unlike in 4", x.told(24), 0);
        check.due("19 unlike in 5", x.told(25), 1);
        for (int what : new int[] {-1, 2, 9, 16, 19, 26, 30, Integer.MIN_VALUE, Integer.MAX_VALUE}) {
            check.due("19 what " + what, x.told(what), Check.OUTSIDE);
        }
        unlikeInEachColumn();
    }

    private static void unlikeInEachColumn() {
        BlockTruths x = new BlockTruths();
        x.add(1, 0, 0, 0, 0);
        x.add(1, 1, 0, 0, 0);
        x.add(1, 0, 1, 0, 0);
        x.add(1, 0, 0, 1, 0);
        x.add(1, 0, 0, 0, 1);
        x.add(1, -999, 1000, -999, 1000);
        x.add(1, 1000, -999, 1000, -999);
        x.add(1, 0, 0, 0, 0);
        check.due("19 unlike", x.told(21), 7);
    }

    private static void checkSummary(String what, BlockTruths x, int block, int column, int[] due) {
        for (int i = 0; i < due.length; i++) {
            check.due(what + " summary(" + block + ", " + column + ", " + i + ")", x.summary(block, column, i), due[i]);
        }
    }

    /** The numbers and how many rows have each, by turns; and that there are no more. */
    private static void checkListed(String what, BlockTruths x, int block, int column, int[] due) {
        for (int i = 0; i < due.length / 2; i++) {
            check.due(what + " listed number " + i, x.listed(block, column, i, 0), due[2 * i]);
            check.due(what + " listed count " + i, x.listed(block, column, i, 1), due[2 * i + 1]);
        }
        check.due(what + " no more listed", x.listed(block, column, due.length / 2, 0), NONE);
    }
}
