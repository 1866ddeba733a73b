/** Part 1 of the Terms and promises 1 to 7 and 19, at their edges: each sentence has a test of its own. */
final class RowEdges {
    private static final int M = Check.MISSING, NONE = Check.NONE, GONE = Check.GONE;
    private static final int UNKNOWN = Check.UNKNOWN, OUTSIDE = Check.OUTSIDE, FULL = Check.FULL;

    private final Check check;

    RowEdges(Check check) {
        this.check = check;
    }

    void all() {
        sixBlocks();
        eightRows();
        fourColumns();
        numbersAndMissing();
        aRowGoes();
        nothingCame();
        leastAndGreatest();
        orderOfTheList();
        howManyHaveIt();
        fourthAndFifth();
        aFifthThoughSomeWent();
        lostTillAnew();
        staleByOneThing();
        staleByNothing();
        staleByAnAdd();
        anewByPlace();
        anewOfNoRows();
        newObject();
        addTellsHowMany();
        dropTellsHowMany();
        anewTellsHowManyWereStale();
        cellTells();
        summaryTells();
        listedTells();
        toldTells();
        likeRows();
    }

    /** A new object whose block has in column a just these, by place. */
    private static BlockTruths withA(int block, int... values) {
        BlockTruths x = new BlockTruths();
        for (int a : values) {
            x.add(block, a, 0, 0, 0);
        }
        return x;
    }

    private void sixBlocks() {
        check.sentence("BLOCKS 0 to 5 have ROWS");
        BlockTruths x = new BlockTruths();
        check.due("add to -1", x.add(-1, 0, 0, 0, 0), UNKNOWN);
        check.due("add to 6", x.add(6, 0, 0, 0, 0), UNKNOWN);
        for (int b = 0; b < 6; b++) {
            check.due("add to " + b, x.add(b, b, 0, 0, 0), 1);
            check.due("rows of all", x.told(1), b + 1);
        }
        for (int b = 0; b < 6; b++) {
            check.due("rows of " + b, x.told(10 + b), 1);
            check.due("cell of " + b, x.cell(b, 0, 0), b);
        }
    }

    private void eightRows() {
        check.sentence("8 at most (none, at first)");
        for (int b = 0; b < 6; b++) {
            BlockTruths x = new BlockTruths();
            check.due("none at first in " + b, x.told(10 + b), 0);
            check.due("no first row in " + b, x.cell(b, 0, 0), GONE + UNKNOWN);
            for (int n = 1; n <= 8; n++) {
                check.due("row " + n, x.add(b, n, 0, 0, 0), n);
            }
            check.due("a ninth", x.add(b, 9, 0, 0, 0), FULL);
            check.due("eight", x.told(10 + b), 8);
            check.due("the eighth", x.cell(b, 7, 0), 8);
            check.due("no ninth", x.cell(b, 8, 0), GONE + UNKNOWN);
            check.due("one goes", x.drop(b, 0), 7);
            check.due("one comes", x.add(b, 9, 0, 0, 0), 8);
            check.due("it is full again", x.add(b, 9, 0, 0, 0), FULL);
            check.due("another one is not", x.add((b + 1) % 6, 9, 0, 0, 0), 1);
        }
    }

    private void fourColumns() {
        check.sentence("each of four COLUMNS 0 to 3 (a to d)");
        BlockTruths x = new BlockTruths();
        x.add(2, 1, 2, 3, 4);
        for (int c = 0; c < 4; c++) {
            check.due("cell " + c, x.cell(2, 0, c), c + 1);
            check.due("least of " + c, x.summary(2, c, 0), c + 1);
            check.ask(x, "=" + "abcd".charAt(c) + (c + 1));
            check.due("letter of " + c, x.truth(2, 0), 1);
            check.rangeIs("letter of " + c, x, 2, 1, 1, c + 1, c + 1);
        }
        for (int c : new int[] {-1, 4}) {
            check.due("no cell " + c, x.cell(2, 0, c), GONE + UNKNOWN);
            check.due("no summary " + c, x.summary(2, c, 0), GONE + UNKNOWN);
        }
    }

    private void numbersAndMissing() {
        check.sentence("each a NUMBER -999 to 999, or MISSING (told as 1000).");
        for (int c = 0; c < 4; c++) {
            for (int n : new int[] {-999, -1, 0, 1, 999}) {
                BlockTruths x = withOne(c, n);
                check.due("cell with " + n, x.cell(0, 0, c), n);
                check.summaryIs(n + " is a number", x, 0, c, n, n, 0, 1, 0);
            }
            BlockTruths x = withOne(c, M);
            check.due("cell with none", x.cell(0, 0, c), 1000);
            check.summaryIs("1000 is no number", x, 0, c, NONE, NONE, 1, 0, 0);
            for (int n : new int[] {-1000, 1001}) {
                check.due(n + " in column " + c, addWith(new BlockTruths(), c, n), OUTSIDE);
            }
        }
    }

    private static BlockTruths withOne(int column, int value) {
        BlockTruths x = new BlockTruths();
        addWith(x, column, value);
        return x;
    }

    private static int addWith(BlockTruths x, int column, int value) {
        int[] row = {5, 5, 5, 5};
        row[column] = value;
        return x.add(0, row[0], row[1], row[2], row[3]);
    }

    private void aRowGoes() {
        check.sentence("A ROW that goes leaves those behind it one place further ahead.");
        for (int gone = 0; gone < 8; gone++) {
            BlockTruths x = new BlockTruths();
            for (int r = 0; r < 8; r++) {
                x.add(4, r, 10 + r, M, -r);
            }
            check.due("drop of " + gone, x.drop(4, gone), 7);
            for (int r = 0; r < 7; r++) {
                int was = r < gone ? r : r + 1;
                check.due("a at " + r, x.cell(4, r, 0), was);
                check.due("b at " + r, x.cell(4, r, 1), 10 + was);
                check.due("c at " + r, x.cell(4, r, 2), M);
                check.due("d at " + r, x.cell(4, r, 3), -was);
            }
            check.due("none behind", x.cell(4, 7, 0), GONE + UNKNOWN);
            check.due("one comes behind all", x.add(4, 99, 0, 0, 0), 8);
            check.due("it is the last", x.cell(4, 7, 0), 99);
        }
    }

    private void nothingCame() {
        check.sentence("LEAST, GREATEST of all NUMBERS that came (none: NONE)");
        BlockTruths x = new BlockTruths();
        check.summaryIs("no rows", x, 1, 2, NONE, NONE, 0, 0, 0);
        for (int n = 1; n <= 8; n++) {
            x.add(1, 0, 0, M, 0);
            check.summaryIs("missing in every row", x, 1, 2, NONE, NONE, n, 0, 0);
        }
        x.drop(1, 7);
        check.summaryIs("one missing went", x, 1, 2, NONE, NONE, 7, 0, 0);
        x.add(1, 0, 0, 0, 0);
        check.summaryIs("0 is a number", x, 1, 2, 0, 0, 7, 1, 0);
        check.summaryIs("another block", x, 2, 2, NONE, NONE, 0, 0, 0);
    }

    private void leastAndGreatest() {
        check.sentence("SUMMARY of a COLUMN of a BLOCK, since it was last made ANEW: LEAST, GREATEST of all NUMBERS that came");
        BlockTruths x = withA(0, 5);
        check.summaryIs("one number", x, 0, 0, 5, 5);
        x.add(0, 6, 0, 0, 0);
        check.summaryIs("a greater one", x, 0, 0, 5, 6);
        x.add(0, 4, 0, 0, 0);
        check.summaryIs("a lesser one", x, 0, 0, 4, 6);
        x.add(0, -999, 0, 0, 0);
        x.add(0, 999, 0, 0, 0);
        x.add(0, M, 0, 0, 0);
        check.summaryIs("both ends", x, 0, 0, -999, 999);
        x.drop(0, 4);
        x.drop(0, 3);
        check.summaryIs("what goes leaves them", x, 0, 0, -999, 999);
        x.anew(0);
        check.summaryIs("anew", x, 0, 0, 4, 6);
        for (int i = 0; i < 4; i++) {
            x.drop(0, 0);
        }
        check.due("none is left", x.told(10), 0);
        check.summaryIs("all went", x, 0, 0, 4, 6);
        x.add(0, 5, 0, 0, 0);
        check.summaryIs("one between came", x, 0, 0, 4, 6);
        x.anew(0);
        check.summaryIs("anew of one", x, 0, 0, 5, 5);
        check.summaryIs("0, then less", withA(0, 0, -5), 0, 0, -5, 0);
        check.summaryIs("0, then more", withA(0, 0, 5), 0, 0, 0, 5);
    }

    private void orderOfTheList() {
        check.sentence("the LIST: NUMBERS that came, in the order in which each first came");
        BlockTruths x = withA(3, 999, -999, M, 0, -999, 999, 0);
        check.listIs("by first coming, not by size", x, 3, 0, 999, 2, -999, 2, 0, 2);
        x.drop(3, 0);
        x.drop(3, 4);
        check.listIs("none has the first one", x, 3, 0, 999, 0, -999, 2, 0, 2);
        x.add(3, 7, 0, 0, 0);
        x.add(3, 999, 0, 0, 0);
        check.listIs("it comes again at its place", x, 3, 0, 999, 1, -999, 2, 0, 2, 7, 1);
        check.listIs("each column has its own", x, 3, 1, 0, 7);
        check.listIs("each block has its own", x, 2, 0);
    }

    private void howManyHaveIt() {
        check.sentence("and how many ROWS have it now (maybe 0)");
        BlockTruths x = withA(5, 3, 3, 3, 3, 3, 3, 3, 3);
        check.listIs("all eight", x, 5, 0, 3, 8);
        for (int n = 7; n >= 0; n--) {
            x.drop(5, n);
            check.listIs("one less", x, 5, 0, 3, n);
        }
        x.add(5, M, 0, 0, 0);
        check.listIs("missing is not counted", x, 5, 0, 3, 0);
        x.add(5, 3, 0, 0, 0);
        check.listIs("one again", x, 5, 0, 3, 1);
        BlockTruths y = new BlockTruths();
        y.add(0, 1, 2, 3, 4);
        y.add(0, M, M, M, M);
        y.add(0, 1, 2, 3, 4);
        y.drop(0, 0);
        for (int c = 0; c < 4; c++) {
            check.listIs("in each column", y, 0, c, c + 1, 1);
            check.due("missing in each column", y.summary(0, c, 2), 1);
        }
        y.drop(0, 0);
        for (int c = 0; c < 4; c++) {
            check.due("missing in none", y.summary(0, c, 2), 0);
        }
    }

    private void fourthAndFifth() {
        check.sentence("if a fifth would come, the LIST is LOST");
        BlockTruths x = withA(1, 4, 3, 2);
        check.listIs("three", x, 1, 0, 4, 1, 3, 1, 2, 1);
        x.add(1, 1, 0, 0, 0);
        check.listIs("the fourth", x, 1, 0, 4, 1, 3, 1, 2, 1, 1, 1);
        x.add(1, M, 0, 0, 0);
        check.listIs("missing is no fifth", x, 1, 0, 4, 1, 3, 1, 2, 1, 1, 1);
        x.add(1, 1, 0, 0, 0);
        check.listIs("one that is there is no fifth", x, 1, 0, 4, 1, 3, 1, 2, 1, 1, 2);
        x.add(1, 0, 0, 0, 0);
        check.listIsLost("the fifth", x, 1, 0);
        check.summaryIs("all else is still known", x, 1, 0, 0, 4, 1, NONE, 0);
        check.listIs("another column's is not", x, 1, 1, 0, 7);
        x.add(1, 4, 0, 0, 0);
        check.listIsLost("one of the four comes", x, 1, 0);
    }

    private void aFifthThoughSomeWent() {
        check.sentence("NUMBERS that came, in the order in which each first came, and how many ROWS have it now (maybe 0); if a fifth would come");
        BlockTruths x = withA(0, 1, 2, 3, 4);
        for (int i = 0; i < 4; i++) {
            x.drop(0, 0);
        }
        check.listIs("no row is there", x, 0, 0, 1, 0, 2, 0, 3, 0, 4, 0);
        x.add(0, 3, 0, 0, 0);
        check.listIs("one of them came", x, 0, 0, 1, 0, 2, 0, 3, 1, 4, 0);
        x.add(0, 5, 0, 0, 0);
        check.listIsLost("a fifth came, though but two are there", x, 0, 0);
    }

    private void lostTillAnew() {
        check.sentence("the LIST is LOST, till it is ANEW");
        BlockTruths x = withA(2, 1, 2, 3, 4, 5, 6);
        x.drop(2, 5);
        check.listIsLost("five are left", x, 2, 0);
        check.due("nothing is stale but the greatest of a", x.anew(2), 1);
        check.listIsLost("anew of five", x, 2, 0);
        x.drop(2, 4);
        check.listIsLost("four are left", x, 2, 0);
        while (x.told(12) > 0) {
            x.drop(2, 0);
        }
        check.listIsLost("none is left", x, 2, 0);
        x.add(2, 9, 0, 0, 0);
        check.listIsLost("one came", x, 2, 0);
        x.anew(2);
        check.listIs("anew of one", x, 2, 0, 9, 1);
        BlockTruths y = withA(2, 1, 2, 3, 4, 5);
        y.drop(2, 0);
        y.anew(2);
        check.listIs("anew of four", y, 2, 0, 2, 1, 3, 1, 4, 1, 5, 1);
        y.add(2, 1, 0, 0, 0);
        check.listIsLost("a fifth again", y, 2, 0);
    }

    private void staleByOneThing() {
        check.sentence("It is STALE, if LEAST, GREATEST, whether the LIST is LOST, or which NUMBERS are in it (in whatever order) would be other, if it were ANEW.");
        BlockTruths x = withA(0, 1, 2, 3, 4, 5, 6);
        x.drop(0, 0);
        check.summaryIs("LEAST alone", x, 0, 0, 1, 6, 0, NONE, 1);
        x = withA(0, 1, 2, 3, 4, 5, 6);
        x.drop(0, 5);
        check.summaryIs("GREATEST alone", x, 0, 0, 1, 6, 0, NONE, 1);
        x = withA(0, 1, 2, 3, 4, 5);
        x.drop(0, 2);
        check.summaryIs("LOST alone", x, 0, 0, 1, 5, 0, NONE, 1);
        x = withA(0, 1, 2, 3);
        x.drop(0, 1);
        check.summaryIs("NUMBERS alone", x, 0, 0, 1, 3, 0, 3, 1);
        x = withA(0, 7, M);
        x.drop(0, 0);
        check.summaryIs("none would be left", x, 0, 0, 7, 7, 1, 1, 1);
        x.drop(0, 0);
        check.summaryIs("no row is left", x, 0, 0, 7, 7, 0, 1, 1);
        check.summaryIs("another block", x, 1, 0, NONE, NONE, 0, 0, 0);
    }

    private void staleByNothing() {
        check.sentence("or which NUMBERS are in it (in whatever order) would be other");
        BlockTruths x = withA(0, 1, 2, 1);
        x.drop(0, 0);
        check.summaryIs("the order alone", x, 0, 0, 1, 2, 0, 2, 0);
        x.add(0, 2, 0, 0, 0);
        x.drop(0, 0);
        check.summaryIs("how many have it alone", x, 0, 0, 1, 2, 0, 2, 0);
        x.add(0, M, 0, 0, 0);
        x.drop(0, 2);
        check.summaryIs("a missing one goes", x, 0, 0, 1, 2, 0, 2, 0);
        x = withA(0, 1, 2, 3, 4, 5, 6);
        x.drop(0, 3);
        check.summaryIs("lost, and would be lost", x, 0, 0, 1, 6, 0, NONE, 0);
        x = withA(0, 3, 1, 2, 4, 5, 6);
        x.drop(0, 0);
        check.summaryIs("lost, and would be lost with another first one", x, 0, 0, 1, 6, 0, NONE, 0);
        x = withA(0, M);
        x.drop(0, 0);
        check.summaryIs("no number ever came", x, 0, 0, NONE, NONE, 0, 0, 0);
    }

    private void staleByAnAdd() {
        check.sentence("would be other, if it were ANEW");
        BlockTruths x = withA(0, 1, 2, 3);
        x.drop(0, 1);
        check.due("stale", x.summary(0, 0, 4), 1);
        x.add(0, 2, 0, 0, 0);
        check.due("what went came again", x.summary(0, 0, 4), 0);
        x = withA(0, 1, 2, 3, 4);
        x.drop(0, 1);
        x.add(0, 5, 0, 0, 0);
        check.summaryIs("lost by an add, but would not be", x, 0, 0, 1, 5, 0, NONE, 1);
        x.add(0, 6, 0, 0, 0);
        check.summaryIs("now it would be", x, 0, 0, 1, 6, 0, NONE, 0);
    }

    private void anewByPlace() {
        check.sentence("ANEW: as if all ROWS that are there came, by place.");
        BlockTruths x = withA(4, 3, 1, M, 2, 1, 3);
        x.drop(4, 0);
        check.listIs("before", x, 4, 0, 3, 1, 1, 2, 2, 1);
        check.due("nothing is stale", x.anew(4), 0);
        check.listIs("by place now", x, 4, 0, 1, 2, 2, 1, 3, 1);
        check.summaryIs("the missing one is counted once", x, 4, 0, 1, 3, 1, 3, 0);
        check.due("the rows stay", x.told(14), 5);
        check.due("the rows stay", x.cell(4, 1, 0), M);
        check.due("once more", x.anew(4), 0);
        check.listIs("the same", x, 4, 0, 1, 2, 2, 1, 3, 1);
        BlockTruths full = withA(0, 8, 7, 7, 7, 7, 7, 7, 6);
        full.anew(0);
        check.listIs("the first and the last of eight", full, 0, 0, 8, 1, 7, 6, 6, 1);
        BlockTruths y = new BlockTruths();
        y.add(2, M, M, M, 4);
        y.add(2, M, M, 3, 4);
        y.add(2, M, 2, 3, 4);
        for (int time = 0; time < 3; time++) {
            for (int c = 0; c < 4; c++) {
                check.summaryIs("missing is counted afresh", y, 2, c, c == 0 ? NONE : c + 1, c == 0 ? NONE : c + 1, 3 - c, c == 0 ? 0 : 1, 0);
            }
            check.due("none stale", y.anew(2), 0);
        }
    }

    private void anewOfNoRows() {
        check.sentence("as if all ROWS that are there came");
        BlockTruths x = new BlockTruths();
        check.due("nothing ever came", x.anew(3), 0);
        x.add(3, 1, 2, M, 4);
        x.drop(3, 0);
        check.due("all numbers went", x.anew(3), 3);
        for (int c = 0; c < 4; c++) {
            check.summaryIs("as at first", x, 3, c, NONE, NONE, 0, 0, 0);
        }
        check.due("once more", x.anew(3), 0);
    }

    private void newObject() {
        check.sentence("No ROWS, no sign.");
        BlockTruths x = new BlockTruths();
        check.due("signs", x.told(0), 0);
        check.due("rows", x.told(1), 0);
        check.due("the fault", x.fault(), 0);
        check.due("signs to wipe", x.wipe(), 0);
        for (int b = 0; b < 6; b++) {
            check.due("rows of " + b, x.told(10 + b), 0);
            check.due("unlike rows of " + b, x.told(20 + b), 0);
        }
        BlockTruths other = new BlockTruths();
        other.add(0, 1, 1, 1, 1);
        other.say('<');
        other.image(0);
        check.due("what another has is not seen", x.told(1), 0);
        check.due("what another was told is not seen", x.told(0), 0);
        check.due("what another kept is not seen", x.restore(0), Check.STATE);
    }

    private void addTellsHowMany() {
        check.sentence("A ROW comes to a BLOCK, behind all: how many it has. UNKNOWN; OUTSIDE: each -999 to 1000; FULL.");
        BlockTruths x = new BlockTruths();
        x.add(0, 1, 1, 1, 1);
        check.due("how many this one has, not all", x.add(1, -999, 999, 1000, 0), 1);
        check.due("like rows count each", x.add(1, -999, 999, 1000, 0), 2);
        check.due("behind", x.add(1, 7, 7, 7, 7), 3);
        check.due("behind all", x.cell(1, 2, 0), 7);
        check.due("the first stays", x.cell(1, 0, 0), -999);
        for (int b : new int[] {-1, 6, Integer.MIN_VALUE, Integer.MAX_VALUE}) {
            check.due("no block " + b, x.add(b, 0, 0, 0, 0), UNKNOWN);
        }
        for (int c = 0; c < 4; c++) {
            for (int n : new int[] {-1000, 1001, Integer.MIN_VALUE, Integer.MAX_VALUE}) {
                check.due(n + " in column " + c, addWith(x, c, n), OUTSIDE);
            }
            check.due("-999 in column " + c, addWith(x, c, -999), 2 + 2 * c);
            check.due("1000 in column " + c, addWith(x, c, 1000), c < 3 ? 3 + 2 * c : FULL);
        }
    }

    private void dropTellsHowMany() {
        check.sentence("A ROW goes: how many it has. UNKNOWN: both.");
        BlockTruths x = withA(5, 1, 2, 3, 4, 5, 6, 7, 8);
        x.add(0, 1, 1, 1, 1);
        check.due("no row -1", x.drop(5, -1), UNKNOWN);
        check.due("no row 8", x.drop(5, 8), UNKNOWN);
        for (int n = 7; n >= 0; n--) {
            check.due("the last one", x.drop(5, n), n);
            check.due("it is no longer there", x.drop(5, n), UNKNOWN);
        }
        check.due("of none", x.drop(5, 0), UNKNOWN);
        for (int b : new int[] {-1, 6, Integer.MIN_VALUE, Integer.MAX_VALUE}) {
            check.due("no block " + b, x.drop(b, 0), UNKNOWN);
        }
        for (int r : new int[] {-1, 1, 8, Integer.MIN_VALUE, Integer.MAX_VALUE}) {
            check.due("no row " + r, x.drop(0, r), UNKNOWN);
        }
        check.due("another block's stays", x.told(10), 1);
    }

    private void anewTellsHowManyWereStale() {
        check.sentence("All SUMMARIES of a BLOCK are ANEW: how many COLUMNS were STALE. UNKNOWN.");
        for (int stale = 0; stale <= 4; stale++) {
            BlockTruths x = new BlockTruths();
            x.add(0, 0, 0, 0, 0);
            x.add(0, stale > 0 ? 1 : 0, stale > 1 ? 1 : 0, stale > 2 ? 1 : 0, stale > 3 ? 1 : 0);
            x.add(1, 0, 0, 0, 0);
            x.add(1, 1, 1, 1, 1);
            x.drop(0, 1);
            x.drop(1, 1);
            check.due(stale + " stale", x.anew(0), stale);
            check.due("none any more", x.anew(0), 0);
            check.due("the greatest is anew", x.summary(0, 3, 1), 0);
            check.due("another block's is not", x.summary(1, 3, 1), 1);
            check.due("another block's is stale", x.summary(1, 3, 4), 1);
        }
        for (int b : new int[] {-1, 6, Integer.MIN_VALUE, Integer.MAX_VALUE}) {
            check.due("no block " + b, new BlockTruths().anew(b), UNKNOWN);
        }
    }

    private void cellTells() {
        check.sentence("What a ROW has in a COLUMN (1000: MISSING). UNKNOWN: all three; as GONE and it.");
        BlockTruths x = new BlockTruths();
        for (int r = 0; r < 8; r++) {
            x.add(5, r, -r, M, 999);
        }
        check.due("the first cell", x.cell(5, 0, 0), 0);
        check.due("the last one", x.cell(5, 7, 3), 999);
        check.due("less than 0", x.cell(5, 7, 1), -7);
        check.due("missing", x.cell(5, 7, 2), 1000);
        for (int n : new int[] {-1, Integer.MIN_VALUE, Integer.MAX_VALUE, 8}) {
            check.due("no block " + n, x.cell(n, 0, 0), GONE + UNKNOWN);
            check.due("no row " + n, x.cell(5, n, 0), GONE + UNKNOWN);
            check.due("no column " + n, x.cell(5, 0, n), GONE + UNKNOWN);
        }
        check.due("no block 6", x.cell(6, 0, 0), GONE + UNKNOWN);
        check.due("no column 4", x.cell(5, 0, 4), GONE + UNKNOWN);
        check.due("no rows", x.cell(4, 0, 0), GONE + UNKNOWN);
    }

    private void summaryTells() {
        check.sentence("SUMMARY: LEAST (what = 0; NONE), GREATEST (1; NONE), how many ROWS are MISSING (2), NUMBERS in the LIST (3; NONE: it is LOST), whether it is STALE (4: 1, 0). UNKNOWN: both, OUTSIDE; as GONE and it.");
        BlockTruths x = withA(5, -4, -6, M);
        check.summaryIs("each", x, 5, 0, -6, -4, 1, 2, 0);
        x.drop(5, 1);
        check.summaryIs("stale", x, 5, 0, -6, -4, 1, 2, 1);
        x.drop(5, 1);
        check.summaryIs("no longer missing", x, 5, 0, -6, -4, 0, 2, 1);
        for (int what : new int[] {-1, 5, Integer.MIN_VALUE, Integer.MAX_VALUE}) {
            check.due("what " + what, x.summary(5, 0, what), GONE + OUTSIDE);
        }
        for (int n : new int[] {-1, 6, Integer.MIN_VALUE, Integer.MAX_VALUE}) {
            check.due("no block " + n, x.summary(n, 0, 0), GONE + UNKNOWN);
            check.due("no column " + n, x.summary(5, n, 0), GONE + UNKNOWN);
        }
        check.due("no column 4", x.summary(5, 4, 0), GONE + UNKNOWN);
        check.due("the last column", x.summary(5, 3, 0), 0);
    }

    private void listedTells() {
        check.sentence("The i-th NUMBER of the LIST (what = 0), how many ROWS have it (1); NONE: no such one, or it is LOST. UNKNOWN: both, OUTSIDE: what; as GONE and it.");
        BlockTruths x = withA(5, -4, -6, -6);
        check.listIs("from 0 on", x, 5, 0, -4, 1, -6, 2);
        for (int i : new int[] {-1, 2, 3, 4, Integer.MIN_VALUE, Integer.MAX_VALUE}) {
            check.due("no number " + i, x.listed(5, 0, i, 0), NONE);
            check.due("no count " + i, x.listed(5, 0, i, 1), NONE);
        }
        for (int what : new int[] {-1, 2, Integer.MIN_VALUE, Integer.MAX_VALUE}) {
            check.due("what " + what, x.listed(5, 0, 0, what), GONE + OUTSIDE);
            check.due("what " + what + " of no such one", x.listed(5, 0, 9, what), GONE + OUTSIDE);
        }
        for (int n : new int[] {-1, 6, Integer.MIN_VALUE, Integer.MAX_VALUE}) {
            check.due("no block " + n, x.listed(n, 0, 0, 0), GONE + UNKNOWN);
            check.due("no column " + n, x.listed(5, n, 0, 0), GONE + UNKNOWN);
        }
        check.due("no column 4", x.listed(5, 4, 0, 0), GONE + UNKNOWN);
        BlockTruths full = withA(0, 4, 3, 2, 1);
        check.due("the fourth", full.listed(0, 0, 3, 0), 1);
        check.due("no fifth", full.listed(0, 0, 4, 0), NONE);
        full.add(0, 0, 0, 0, 0);
        check.listIsLost("lost", full, 0, 0);
        check.due("lost, what outside", full.listed(0, 0, 0, 2), GONE + OUTSIDE);
    }

    private void toldTells() {
        check.sentence("0 signs, 1 all ROWS; 10 and a BLOCK: its ROWS; 20 and a BLOCK: how many unlike ROWS it has. OUTSIDE.");
        BlockTruths x = new BlockTruths();
        for (int what : new int[] {-1, 2, 9, 16, 19, 26, Integer.MIN_VALUE, Integer.MAX_VALUE}) {
            check.due("told(" + what + ")", x.told(what), OUTSIDE);
        }
        for (int b = 0; b < 6; b++) {
            for (int r = 0; r < 8; r++) {
                x.add(b, r < b ? r : 99, 0, 0, 0);
            }
        }
        for (int n = 1; n <= 60; n++) {
            x.say(33);
        }
        check.due("signs", x.told(0), 60);
        check.due("all rows", x.told(1), 48);
        for (int b = 0; b < 6; b++) {
            check.due("rows of " + b, x.told(10 + b), 8);
            check.due("unlike rows of " + b, x.told(20 + b), b + 1);
        }
    }

    private void likeRows() {
        check.sentence("LIKE ROWS have the same in all four COLUMNS.");
        for (int c = 0; c < 4; c++) {
            BlockTruths x = withOne(c, 7);
            check.due("one", x.told(20), 1);
            addWith(x, c, 7);
            check.due("two that are like", x.told(20), 1);
            addWith(x, c, 8);
            check.due("one is other in column " + c, x.told(20), 2);
            addWith(x, c, M);
            check.due("one is missing in column " + c, x.told(20), 3);
            addWith(x, c, M);
            check.due("missing is like missing", x.told(20), 3);
            addWith(x, c, 999);
            addWith(x, c, -999);
            addWith(x, c, -7);
            check.due("six are unlike", x.told(20), 6);
        }
        BlockTruths x = new BlockTruths();
        x.add(0, 1, 2, 3, 4);
        x.add(0, 4, 3, 2, 1);
        x.add(0, 2, 1, 4, 3);
        check.due("the same numbers in other columns are unlike", x.told(20), 3);
        x.add(0, 0, M, 0, 0);
        x.add(0, 1, -999, 0, 0);
        check.due("the ends of two columns beside one another are unlike", x.told(20), 5);
    }
}
