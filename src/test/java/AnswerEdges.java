/** Promises 15 to 18 at their edges: what all MATCHES have in common, and images. */
final class AnswerEdges {
    private static final int M = Check.MISSING, NONE = Check.NONE, GONE = Check.GONE;
    private static final int UNKNOWN = Check.UNKNOWN, OUTSIDE = Check.OUTSIDE, NO = Check.NO, STATE = Check.STATE;

    private final Check check;

    AnswerEdges(Check check) {
        this.check = check;
    }

    void all() {
        bitsOfBlocks();
        answerTells();
        noMatch();
        likeRowsInOneBlock();
        likeRowsInTwoBlocks();
        unlikeInOneColumn();
        rowsOfScannedBlocks();
        fullBlocks();
        totalTells();
        totalOfNoMatch();
        totalOfMissing();
        totalAtTheEnds();
        rowsToRead();
        staleInThatColumn();
        imageTells();
        imageKeptTwice();
        imageKeepsAllButThePad();
        imageKeepsSummaries();
        imageKeepsFullBlocks();
        restoreTells();
        restoredTwice();
        twoImages();
        imagesAreApart();
        used512Times();
    }

    private void answersAre(String what, BlockTruths x, int... due) {
        for (int i = 0; i < due.length; i++) {
            check.due(what + ", answer(" + i + ")", x.answer(i), due[i]);
        }
    }

    private void totalsAre(String what, BlockTruths x, int column, int... due) {
        for (int i = 0; i < due.length; i++) {
            check.due(what + ", total(" + column + ", " + i + ")", x.total(column, i), due[i]);
        }
    }

    private void bitsOfBlocks() {
        check.sentence("Sets are bits.");
        for (int b = 0; b < 6; b++) {
            BlockTruths x = new BlockTruths();
            x.add(b, 1, 0, 0, 0);
            check.ask(x, "=a1");
            answersAre("taken " + b, x, 1, 1, 0, 63 - (1 << b), 1 << b, 0);
            x.add(b, 2, 0, 0, 0);
            answersAre("scanned " + b, x, 1, 1, 2, 63 - (1 << b), 0, 1 << b);
            x.drop(b, 0);
            answersAre("skipped " + b, x, 0, 0, 0, 63, 0, 0);
        }
    }

    private void answerTells() {
        check.sentence("How many MATCHES in all BLOCKS (what = 0), how many unlike ones (1), how many ROWS are in SCANNED BLOCKS (2), which BLOCKS are SKIPPED (3), TAKEN (4), SCANNED (5; bits). OUTSIDE; NO.");
        BlockTruths x = new BlockTruths();
        check.due("no sign", x.answer(0), NO);
        x.add(0, 1, 0, 0, 0);
        x.add(0, 1, 0, 0, 0);
        x.add(2, 1, 0, 0, 0);
        x.add(2, M, 0, 0, 0);
        x.add(2, 2, 0, 0, 0);
        x.add(3, 2, 0, 0, 0);
        x.add(5, 1, 0, 0, 1);
        check.ask(x, "=a1");
        answersAre("each", x, 4, 2, 3, 26, 33, 4);
        for (int what : new int[] {-1, 6, Integer.MIN_VALUE, Integer.MAX_VALUE}) {
            check.due("what " + what, x.answer(what), OUTSIDE);
        }
        x.say('1');
        for (int what = 0; what < 6; what++) {
            check.due("a fault, what " + what, x.answer(what), NO);
        }
        int[] due = {1, 1, 2, 47, 0, 16};
        for (int what = 0; what < 6; what++) {
            BlockTruths y = new BlockTruths();
            y.add(4, 1, 0, 0, 0);
            y.add(4, 2, 0, 0, 0);
            check.ask(y, "=a1");
            check.due("asked as the first, what " + what, y.answer(what), due[what]);
        }
    }

    private void noMatch() {
        check.sentence("How many MATCHES in all BLOCKS (what = 0)");
        BlockTruths x = new BlockTruths();
        check.ask(x, "<01");
        answersAre("no rows at all", x, 0, 0, 0, 63, 0, 0);
        x.add(0, 1, 0, 0, 0);
        x.add(1, M, 0, 0, 0);
        check.ask(x, "=a2");
        answersAre("false or unknown of each", x, 0, 0, 0, 63, 0, 0);
        x.add(0, 3, 0, 0, 0);
        check.ask(x, "=+ab2");
        answersAre("none is true of those that are scanned", x, 0, 0, 2, 62, 0, 1);
    }

    private void likeRowsInOneBlock() {
        check.sentence("how many unlike ones (1)");
        BlockTruths x = new BlockTruths();
        check.ask(x, "<01");
        for (int n = 1; n <= 8; n++) {
            x.add(4, 7, M, -999, 999);
            answersAre("like rows in one block", x, n, 1);
            check.due("told of the block", x.told(24), 1);
        }
        x.drop(4, 0);
        x.add(4, 7, M, -999, 998);
        answersAre("one is unlike", x, 8, 2);
        check.ask(x, "=d#999");
        answersAre("but is no match", x, 7, 1);
    }

    private void likeRowsInTwoBlocks() {
        check.sentence("how many unlike ones (1), how many ROWS are in SCANNED BLOCKS (2)");
        BlockTruths x = new BlockTruths();
        x.add(0, 1, 2, 3, 4);
        x.add(5, 1, 2, 3, 4);
        check.ask(x, "<01");
        answersAre("like rows in two blocks", x, 2, 1);
        check.due("told of the one", x.told(20), 1);
        check.due("told of the other", x.told(25), 1);
        x.add(5, 1, 2, 3, 5);
        x.add(0, 1, 2, 3, 5);
        answersAre("two and two", x, 4, 2);
        x.add(3, 0, 2, 3, 5);
        answersAre("one more", x, 5, 3);
        check.due("told of the one", x.told(25), 2);
    }

    private void unlikeInOneColumn() {
        check.sentence("LIKE ROWS have the same in all four COLUMNS");
        for (int c = 0; c < 4; c++) {
            BlockTruths x = new BlockTruths();
            x.add(1, 5, 5, 5, 5);
            x.add(2, c == 0 ? 6 : 5, c == 1 ? 6 : 5, c == 2 ? 6 : 5, c == 3 ? 6 : 5);
            x.add(3, c == 0 ? M : 5, c == 1 ? M : 5, c == 2 ? M : 5, c == 3 ? M : 5);
            check.ask(x, "<01");
            answersAre("unlike in column " + c, x, 3, 3);
        }
    }

    private void rowsOfScannedBlocks() {
        check.sentence("how many ROWS are in SCANNED BLOCKS (2)");
        BlockTruths x = new BlockTruths();
        for (int n = 0; n < 8; n++) {
            x.add(1, n % 2, 0, 0, 0);
        }
        x.add(2, 1, 0, 0, 0);
        x.add(3, 0, 0, 0, 0);
        check.ask(x, "=a1");
        answersAre("all rows of the scanned one, none of the others", x, 5, 1, 8, 57, 4, 2);
        x.add(3, 1, 0, 0, 0);
        answersAre("of two scanned ones", x, 6, 1, 10, 49, 4, 10);
    }

    private void fullBlocks() {
        check.sentence("BLOCKS 0 to 5 have ROWS, 8 at most");
        BlockTruths x = new BlockTruths();
        for (int n = 0; n < 48; n++) {
            x.add(n / 8, n, -n, 0, M);
        }
        check.ask(x, "<01");
        answersAre("48 that are unlike, all taken", x, 48, 48, 0, 0, 63, 0);
        check.ask(x, "=%a2 0");
        answersAre("each is scanned", x, 24, 24, 48, 0, 0, 63);
        totalsAre("each is scanned", x, 0, 0, 46, 552, 0, 48);
        check.ask(x, "=d0");
        answersAre("each is skipped", x, 0, 0, 0, 63, 0, 0);
    }

    private void totalTells() {
        check.sentence("Of all MATCHES in a COLUMN: the least (what = 0; NONE), the greatest (1; NONE), all added (2), how many are MISSING (3); how many ROWS are in BLOCKS that are SCANNED, or TAKEN and STALE in that COLUMN (4). UNKNOWN, OUTSIDE, NO; as GONE and it.");
        BlockTruths x = new BlockTruths();
        check.due("no sign", x.total(0, 0), GONE + NO);
        x.add(0, 1, -5, M, 0);
        x.add(0, 2, -900, 1, 0);
        x.add(5, 1, 7, 4, 0);
        check.ask(x, "=a1");
        totalsAre("of matches alone", x, 0, 1, 1, 2, 0, 2);
        totalsAre("of matches alone", x, 1, -5, 7, 2, 0, 2);
        totalsAre("of matches alone", x, 2, 4, 4, 4, 1, 2);
        totalsAre("of matches alone", x, 3, 0, 0, 0, 0, 2);
        for (int column : new int[] {-1, 4, Integer.MIN_VALUE, Integer.MAX_VALUE}) {
            check.due("no column " + column, x.total(column, 0), GONE + UNKNOWN);
        }
        for (int what : new int[] {-1, 5, Integer.MIN_VALUE, Integer.MAX_VALUE}) {
            check.due("what " + what, x.total(0, what), GONE + OUTSIDE);
        }
        x.say('1');
        for (int what = 0; what < 5; what++) {
            check.due("a fault, what " + what, x.total(0, what), GONE + NO);
        }
    }

    private void totalOfNoMatch() {
        check.sentence("the least (what = 0; NONE), the greatest (1; NONE), all added (2)");
        BlockTruths x = new BlockTruths();
        check.ask(x, "<01");
        totalsAre("no rows", x, 3, NONE, NONE, 0, 0, 0);
        x.add(0, 1, 1, 1, 1);
        x.add(0, M, 1, 1, 1);
        check.ask(x, "=a2");
        for (int c = 0; c < 4; c++) {
            totalsAre("no match", x, c, NONE, NONE, 0, 0, 0);
        }
        check.ask(x, "=+ab2");
        totalsAre("one match", x, 0, 1, 1, 1, 0, 2);
        BlockTruths y = new BlockTruths();
        y.add(0, 0, 0, 0, 0);
        y.add(0, -5, 5, 0, 0);
        check.ask(y, "<01");
        totalsAre("0, then less", y, 0, -5, 0, -5, 0, 0);
        totalsAre("0, then more", y, 1, 0, 5, 5, 0, 0);
        check.due("asked as the first", taken().total(1, 4), 1);
    }

    /** One block is taken, and stale in b alone. */
    private BlockTruths taken() {
        BlockTruths x = new BlockTruths();
        x.add(0, 1, 1, 1, 1);
        x.add(0, 1, 2, 1, 1);
        x.drop(0, 1);
        check.ask(x, "=a1");
        return x;
    }

    private void totalOfMissing() {
        check.sentence("how many are MISSING (3)");
        BlockTruths x = new BlockTruths();
        for (int n = 0; n < 8; n++) {
            x.add(1, M, n < 4 ? M : 0, n, n == 0 ? M : -3);
        }
        check.ask(x, "ma");
        totalsAre("missing in every match", x, 0, NONE, NONE, 0, 8, 0);
        totalsAre("missing in half of them", x, 1, 0, 0, 0, 4, 0);
        totalsAre("missing in none", x, 2, 0, 7, 28, 0, 0);
        totalsAre("missing in one", x, 3, -3, -3, -21, 1, 0);
        check.ask(x, "!mb");
        totalsAre("those that are no match are not counted", x, 0, NONE, NONE, 0, 4, 8);
        totalsAre("those that are no match are not counted", x, 1, 0, 0, 0, 0, 8);
    }

    private void totalAtTheEnds() {
        check.sentence("all added (2)");
        BlockTruths x = new BlockTruths();
        for (int n = 0; n < 48; n++) {
            x.add(n / 8, 999, -999, n % 2 == 0 ? 999 : -999, M);
        }
        check.ask(x, "<01");
        totalsAre("as great as it can be", x, 0, 999, 999, 47952, 0, 0);
        totalsAre("as little as it can be", x, 1, -999, -999, -47952, 0, 0);
        totalsAre("both ends", x, 2, -999, 999, 0, 0, 0);
        totalsAre("none", x, 3, NONE, NONE, 0, 48, 0);
    }

    private void rowsToRead() {
        check.sentence("how many ROWS are in BLOCKS that are SCANNED, or TAKEN and STALE in that COLUMN (4).");
        BlockTruths x = new BlockTruths();
        x.add(0, 1, 5, 0, 0);
        x.add(0, 1, 6, 0, 0);
        x.add(0, 1, 7, 0, 0);
        check.ask(x, "=a1");
        check.due("taken, not stale", x.total(1, 4), 0);
        x.drop(0, 2);
        check.due("taken and stale in b", x.total(1, 4), 2);
        check.due("taken, not stale in a", x.total(0, 4), 0);
        check.due("taken, not stale in c", x.total(2, 4), 0);
        check.due("none is scanned", x.answer(2), 0);
        x.add(0, 2, 5, 0, 0);
        check.due("scanned, stale in b", x.total(1, 4), 3);
        check.due("scanned, not stale in c", x.total(2, 4), 3);
        check.ask(x, "=a9");
        check.due("skipped, stale in b", x.total(1, 4), 0);
        check.ask(x, "<a9");
        check.due("taken again", x.total(1, 4), 3);
        x.anew(0);
        check.due("stale no longer", x.total(1, 4), 0);
    }

    private void staleInThatColumn() {
        check.sentence("TAKEN and STALE in that COLUMN");
        for (int c = 0; c < 4; c++) {
            BlockTruths x = new BlockTruths();
            x.add(3, 0, 0, 0, 0);
            x.add(3, c == 0 ? 1 : 0, c == 1 ? 1 : 0, c == 2 ? 1 : 0, c == 3 ? 1 : 0);
            x.drop(3, 1);
            x.add(4, 0, 0, 0, 0);
            check.ask(x, "<01");
            for (int other = 0; other < 4; other++) {
                check.due("stale in " + c + ", asked of " + other, x.total(other, 4), other == c ? 1 : 0);
            }
            x.drop(3, 0);
            check.due("stale, but no rows", x.total(c, 4), 0);
        }
    }

    private void imageTells() {
        check.sentence("All but the PAD is kept in an IMAGE (0, 1): 1. OUTSIDE.");
        BlockTruths x = new BlockTruths();
        check.due("of nothing", x.image(0), 1);
        check.due("the second one", x.image(1), 1);
        check.due("the first one again", x.image(0), 1);
        for (int n : new int[] {-1, 2, Integer.MIN_VALUE, Integer.MAX_VALUE}) {
            check.due("no image " + n, x.image(n), OUTSIDE);
        }
        x.add(0, 1, 1, 1, 1);
        check.due("kept with a fault on the pad", x.image(0), 1);
        check.due("keeping changes nothing", x.told(1), 1);
    }

    private void imageKeptTwice() {
        check.sentence("All but the PAD is kept in an IMAGE");
        for (int n = 0; n < 2; n++) {
            BlockTruths x = new BlockTruths();
            x.add(0, 1, 1, 1, 1);
            x.image(n);
            x.add(0, 2, 2, 2, 2);
            check.due("kept twice", x.image(n), 1);
            x.drop(0, 0);
            x.drop(0, 0);
            check.due("restored", x.restore(n), 1);
            check.due("as it was when it was kept last", x.told(10), 2);
            check.due("its second row", x.cell(0, 1, 0), 2);
            x.drop(0, 1);
            x.drop(0, 0);
            x.anew(0);
            x.image(n);
            x.add(0, 3, 3, 3, 3);
            x.restore(n);
            check.due("kept as empty", x.told(1), 0);
            check.summaryIs("kept as empty", x, 0, 0, NONE, NONE, 0, 0, 0);
        }
    }

    private void imageKeepsAllButThePad() {
        check.sentence("All but the PAD is kept");
        BlockTruths x = new BlockTruths();
        x.add(5, 1, 2, M, 4);
        check.ask(x, "<ab");
        x.image(0);
        x.wipe();
        x.restore(0);
        check.due("a pad that was wiped stays so", x.told(0), 0);
        check.ask(x, "=a1");
        x.image(0);
        x.say('z');
        check.due("a fault", x.fault(), 3);
        x.restore(0);
        check.due("the fault stays", x.fault(), 3);
        check.due("the signs stay", x.told(0), 4);
        check.ask(x, "ma");
        x.restore(0);
        check.due("the question is the one that was told last", x.truth(5, 0), 0);
        check.due("it has no fault", x.fault(), NONE);
        check.ask(x, "mc");
        check.due("it can be told anew", x.truth(5, 0), 1);
    }

    private void imageKeepsSummaries() {
        check.sentence("It is as it was when it was kept");
        BlockTruths x = new BlockTruths();
        int[] as = {3, 1, 3, 2};
        for (int r = 0; r < 4; r++) {
            x.add(2, as[r], 10 * r, r == 0 ? M : 5, 0);
        }
        x.add(2, 2, 40, 5, 0);
        x.drop(2, 1);
        x.image(1);
        x.anew(2);
        check.listIs("anew", x, 2, 0, 3, 2, 2, 2);
        for (int i = 0; i < 4; i++) {
            x.drop(2, 0);
        }
        x.add(2, 9, 9, 9, 9);
        x.restore(1);
        check.due("rows", x.told(12), 4);
        check.due("the first cell", x.cell(2, 0, 0), 3);
        check.due("the last cell", x.cell(2, 3, 1), 40);
        check.listIs("the order and what none has", x, 2, 0, 3, 2, 1, 0, 2, 2);
        check.summaryIs("stale", x, 2, 0, 1, 3, 0, 3, 1);
        check.listIsLost("lost", x, 2, 1);
        check.summaryIs("lost, and would not be", x, 2, 1, 0, 40, 0, NONE, 1);
        check.summaryIs("missing", x, 2, 2, 5, 5, 1, 1, 0);
        x.add(2, 9, 0, 0, 0);
        check.listIs("it goes on from there", x, 2, 0, 3, 2, 1, 0, 2, 2, 9, 1);
    }

    private void imageKeepsFullBlocks() {
        check.sentence("All but the PAD is kept in an IMAGE (0, 1)");
        for (int b = 0; b < 6; b++) {
            BlockTruths x = new BlockTruths();
            for (int r = 0; r < 8; r++) {
                x.add(b, r % 4, -r % 4, 10 * (r % 4), r == 7 ? M : 5 + r % 4);
            }
            x.image(0);
            for (int r = 0; r < 8; r++) {
                x.drop(b, 0);
            }
            x.anew(b);
            for (int r = 0; r < 8; r++) {
                x.add(b, 500 + r, 500, 500, 500);
            }
            x.restore(0);
            check.due("rows of " + b, x.told(10 + b), 8);
            for (int r = 0; r < 8; r++) {
                check.due("a of row " + r, x.cell(b, r, 0), r % 4);
                check.due("b of row " + r, x.cell(b, r, 1), -r % 4);
                check.due("c of row " + r, x.cell(b, r, 2), 10 * (r % 4));
                check.due("d of row " + r, x.cell(b, r, 3), r == 7 ? M : 5 + r % 4);
            }
            check.listIs("a list of four", x, b, 0, 0, 2, 1, 2, 2, 2, 3, 2);
            check.listIs("a list of four", x, b, 1, 0, 2, -1, 2, -2, 2, -3, 2);
            check.listIs("a list of four", x, b, 2, 0, 2, 10, 2, 20, 2, 30, 2);
            check.listIs("a list of four", x, b, 3, 5, 2, 6, 2, 7, 2, 8, 1);
            check.summaryIs("one is missing", x, b, 3, 5, 8, 1, 4, 0);
        }
    }

    private void restoreTells() {
        check.sentence("It is as it was when it was kept: 1. OUTSIDE; STATE: it was not.");
        BlockTruths x = new BlockTruths();
        check.due("never kept", x.restore(0), STATE);
        check.due("never kept", x.restore(1), STATE);
        for (int n : new int[] {-1, 2, Integer.MIN_VALUE, Integer.MAX_VALUE}) {
            check.due("no image " + n, x.restore(n), OUTSIDE);
        }
        x.add(0, 1, 1, 1, 1);
        check.due("never kept, some rows", x.restore(0), STATE);
        check.due("the rows stay", x.told(1), 1);
        x.image(1);
        check.due("the other one was kept", x.restore(0), STATE);
        check.due("this one was", x.restore(1), 1);
        x.image(2);
        check.due("what was refused was not kept", x.restore(0), STATE);
    }

    private void restoredTwice() {
        check.sentence("It is as it was when it was kept: 1.");
        for (int n = 0; n < 2; n++) {
            BlockTruths x = new BlockTruths();
            x.add(4, 1, 2, 3, 4);
            x.image(n);
            for (int time = 0; time < 3; time++) {
                x.add(4, 5, 5, 5, 5);
                x.drop(4, 0);
                x.add(0, 6, 6, 6, 6);
                check.due("restored", x.restore(n), 1);
                check.due("rows", x.told(1), 1);
                check.due("its cell", x.cell(4, 0, 3), 4);
                check.listIs("its list", x, 4, 0, 1, 1);
                check.due("restored at once again", x.restore(n), 1);
                check.due("rows", x.told(1), 1);
            }
        }
    }

    private void twoImages() {
        check.sentence("is kept in an IMAGE (0, 1)");
        BlockTruths x = new BlockTruths();
        x.image(0);
        x.add(3, 1, 1, 1, 1);
        x.image(1);
        x.add(3, 2, 2, 2, 2);
        x.restore(0);
        check.due("the first one", x.told(1), 0);
        check.due("the second one is there still", x.restore(1), 1);
        check.due("the second one", x.told(1), 1);
        x.add(3, 3, 3, 3, 3);
        x.image(0);
        x.restore(1);
        check.due("the second one again", x.told(1), 1);
        x.restore(0);
        check.due("the first one is the later now", x.told(1), 2);
        check.due("its cell", x.cell(3, 1, 0), 3);
    }

    private void imagesAreApart() {
        check.sentence("as it was when it was kept");
        BlockTruths x = new BlockTruths();
        x.add(0, 1, 1, 1, 1);
        x.add(0, 2, 2, 2, 2);
        x.image(0);
        x.restore(0);
        x.drop(0, 0);
        x.add(0, 7, 7, 7, 7);
        x.add(1, 8, 8, 8, 8);
        x.anew(0);
        x.restore(0);
        check.due("what is done later is not done to it", x.told(1), 2);
        check.due("its first cell", x.cell(0, 0, 0), 1);
        check.due("its last cell", x.cell(0, 1, 3), 2);
        check.listIs("its list", x, 0, 2, 1, 1, 2, 1);
        check.listIs("another block's list", x, 1, 2);
    }

    private void used512Times() {
        check.sentence("An object is used for at most 512 calls after it has been made");
        BlockTruths x = new BlockTruths();
        int calls = 0;
        while (calls < 504) {
            check.due("a row comes", x.add(2, calls % 999, 0, M, -1), 1);
            check.due("a row goes", x.drop(2, 0), 0);
            check.due("kept", x.image(calls / 4 % 2), 1);
            check.due("restored", x.restore(calls / 4 % 2), 1);
            calls += 4;
        }
        check.due("anew", x.anew(2), 3);
        check.due("a row comes", x.add(2, M, 7, 7, 7), 1);
        check.due("a sign", x.say('m'), 1);
        check.due("a sign", x.say('a'), 2);
        check.due("truth", x.truth(2, 0), 1);
        check.due("verdict", x.verdict(2, 0), 1);
        check.due("matches", x.answer(0), 1);
        check.due("the 512th call", x.total(1, 2), 7);
    }
}
