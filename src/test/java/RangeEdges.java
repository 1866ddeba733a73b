/** Part 3 of the Terms, promises 12 to 14, at their edges: what a TERM and a TRUTH may be in a BLOCK. */
final class RangeEdges {
    private static final int M = Check.MISSING, NONE = Check.NONE, GONE = Check.GONE;
    private static final int UNKNOWN = Check.UNKNOWN, OUTSIDE = Check.OUTSIDE, NO = Check.NO, STATE = Check.STATE;
    private static final String MILLION = "**#100#100#100";

    private final Check check;

    RangeEdges(Check check) {
        this.check = check;
    }

    void all() {
        whatATermMayBe();
        rangeOfAColumn();
        rangeOfAStaleColumn();
        rangeOfFigures();
        rangeOfParts();
        rangeOfTheOtherSide();
        rangeOfSums();
        rangeOfDifferences();
        rangeOfProducts();
        rangeOfWhatIsCut();
        leftOverWithinOne();
        leftOverOtherwise();
        leftOverByOne();
        bytesWithinOne();
        bytesOtherwise();
        whatATruthMayBe();
        mayOfMissingTerms();
        mayOfLess();
        mayOfLike();
        mayOfMissing();
        mayOfNot();
        mayOfBothAndEither();
        noColumn();
        oneColumn();
        asOftenAsItMayBe();
        moreColumns();
        numbersThatSomeRowHas();
        missingByTheList();
        aLostList();
        eachVerdict();
        neverSkippedNeverWrong();
        rangeTells();
        mayTells();
        verdictTells();
    }

    /** A block whose rows have these in column a, by place. */
    private static BlockTruths withA(int... values) {
        BlockTruths x = new BlockTruths();
        for (int a : values) {
            x.add(5, a, 0, 0, 0);
        }
        return x;
    }

    /** A block of two rows: a is from l to h, b from l2 to h2, c is missing in one row, d in both. */
    private static BlockTruths between(int l, int h, int l2, int h2) {
        BlockTruths x = new BlockTruths();
        x.add(5, l, l2, 3, M);
        x.add(5, h, h2, M, M);
        return x;
    }

    /** RANGE of a TERM at both places of a comparison. */
    private void rangeOf(BlockTruths x, String term, int... due) {
        String signs = term.replace(" ", "");
        check.ask(x, "=" + signs + "0");
        check.rangeIs(signs + " as the first", x, 5, 1, due);
        check.ask(x, "=0" + signs);
        check.rangeIs(signs + " as the second", x, 5, 2, due);
    }

    private void mayOf(BlockTruths x, String signs, int due) {
        check.ask(x, signs);
        check.due("may of " + signs, x.may(5, 0), due);
    }

    private void verdictOf(BlockTruths x, String signs, int verdict, int may) {
        check.ask(x, signs);
        check.due("verdict of " + signs, x.verdict(5, 0), verdict);
        check.due("may of all of " + signs, x.verdict(5, 1), may);
    }

    private void whatATermMayBe() {
        check.sentence("RANGE of a TERM in a BLOCK (that has ROWS): whether it may be a NUMBER (1), whether it may be MISSING (2), added; if it may be a NUMBER, a LOW and a HIGH.");
        BlockTruths x = between(1, 2, 3, 4);
        rangeOf(x, "a", 1, 1, 2);
        rangeOf(x, "c", 3, 3, 3);
        rangeOf(x, "d", 2, NONE, NONE);
        check.ask(x, "<ab");
        check.due("no rows", x.range(4, 1, 0), GONE + STATE);
        x.drop(5, 0);
        x.drop(5, 0);
        check.due("no rows any more", x.range(5, 1, 0), GONE + STATE);
        check.due("no rows any more, its low", x.range(5, 1, 1), GONE + STATE);
    }

    private void rangeOfAColumn() {
        check.sentence("Of a COLUMN: 1, if fewer ROWS are MISSING than there are, LEAST and GREATEST; 2, if any is MISSING.");
        rangeOf(withA(7), "a", 1, 7, 7);
        rangeOf(withA(-999, 999), "a", 1, -999, 999);
        rangeOf(withA(0, 0, 0, 0, 0, 0, 0, 0), "a", 1, 0, 0);
        rangeOf(withA(M), "a", 2, NONE, NONE);
        rangeOf(withA(M, M, M, M, M, M, M, M), "a", 2, NONE, NONE);
        rangeOf(withA(M, M, M, M, M, M, M, -5), "a", 3, -5, -5);
        rangeOf(withA(1, 2, 3, 4, 5, 6, 7, M), "a", 3, 1, 7);
        for (int c = 0; c < 4; c++) {
            BlockTruths x = new BlockTruths();
            x.add(5, 1, 2, 3, 4);
            x.add(5, c == 0 ? M : 1, c == 1 ? M : 2, c == 2 ? M : 3, c == 3 ? M : 4);
            for (int other = 0; other < 4; other++) {
                rangeOf(x, "" + "abcd".charAt(other), other == c ? 3 : 1, other + 1, other + 1);
            }
        }
    }

    private void rangeOfAStaleColumn() {
        check.sentence("if fewer ROWS are MISSING than there are, LEAST and GREATEST");
        BlockTruths x = withA(-9, 5, 9, M);
        x.drop(5, 2);
        x.drop(5, 0);
        rangeOf(x, "a", 3, -9, 9);
        x.drop(5, 0);
        rangeOf(x, "a", 2, NONE, NONE);
        x.add(5, 0, 0, 0, 0);
        rangeOf(x, "a", 3, -9, 9);
        x.drop(5, 0);
        rangeOf(x, "a", 1, -9, 9);
        x.anew(5);
        rangeOf(x, "a", 1, 0, 0);
    }

    private void rangeOfFigures() {
        check.sentence("Of a figure, three figures: 1, LOW and HIGH are that.");
        BlockTruths x = withA(M);
        for (int n = 0; n <= 9; n++) {
            rangeOf(x, "" + n, 1, n, n);
        }
        rangeOf(x, "#000", 1, 0, 0);
        rangeOf(x, "#001", 1, 1, 1);
        rangeOf(x, "#120", 1, 120, 120);
        rangeOf(x, "#999", 1, 999, 999);
    }

    private void rangeOfParts() {
        check.sentence("Of all else: 1, if all TERMS in it may be NUMBERS, 2, if any may be MISSING; LOW and HIGH, from l and h of the TERM, l2 and h2 of the second one:");
        // a is a number, c may be either, d is missing in every row
        String[] letters = {"a", "c", "d"};
        int[][] due = {{1, 3, 2}, {3, 3, 2}, {2, 2, 2}};
        for (int i = 0; i < 3; i++) {
            for (String sign : new String[] {"~", "y", "%"}) {
                BlockTruths x = between(3, 3, 3, 3);
                check.ask(x, "=" + sign + letters[i] + (sign.equals("%") ? "5" : "") + "0");
                check.due(sign + letters[i], x.range(5, 1, 0), due[i][i]);
                check.due(sign + letters[i] + " has a low", x.range(5, 1, 1) == NONE ? 0 : 1, i == 2 ? 0 : 1);
                check.due(sign + letters[i] + " has a high", x.range(5, 1, 2) == NONE ? 0 : 1, i == 2 ? 0 : 1);
            }
            for (int j = 0; j < 3; j++) {
                BlockTruths x = between(3, 3, 3, 3);
                boolean none = due[i][j] == 2;
                rangeOf(x, "+" + letters[i] + letters[j], due[i][j], none ? NONE : 6, none ? NONE : 6);
                rangeOf(x, "-" + letters[i] + letters[j], due[i][j], none ? NONE : 0, none ? NONE : 0);
                rangeOf(x, "*" + letters[i] + letters[j], due[i][j], none ? NONE : 9, none ? NONE : 9);
            }
        }
        rangeOf(between(3, 3, 3, 3), "+~%yd5a", 2, NONE, NONE);
        rangeOf(between(3, 3, 3, 3), "+~%yc5a", 3, 0, 0);
    }

    private void rangeOfTheOtherSide() {
        check.sentence("~ -h and -l;");
        rangeOf(withA(-999, 998), "~a", 1, -998, 999);
        rangeOf(withA(0), "~a", 1, 0, 0);
        rangeOf(withA(3, 8), "~a", 1, -8, -3);
        rangeOf(withA(-8, -3), "~a", 1, 3, 8);
        rangeOf(withA(-8, 3), "~~a", 1, -8, 3);
        rangeOf(withA(0), "~" + MILLION, 1, -1000000, -1000000);
    }

    private void rangeOfSums() {
        check.sentence("+ l and l2, h and h2 added;");
        rangeOf(between(-7, 2, -20, 100), "+ab", 1, -27, 102);
        rangeOf(between(-7, 2, -20, 100), "+ba", 1, -27, 102);
        rangeOf(between(5, 5, 6, 6), "+ab", 1, 11, 11);
        rangeOf(between(-999, 999, -999, 999), "+ab", 1, -1998, 1998);
        rangeOf(between(-7, 2, 0, 0), "+aa", 1, -14, 4);
    }

    private void rangeOfDifferences() {
        check.sentence("- l less h2, h less l2;");
        rangeOf(between(-7, 2, -20, 100), "-ab", 1, -107, 22);
        rangeOf(between(-7, 2, -20, 100), "-ba", 1, -22, 107);
        rangeOf(between(5, 5, 6, 6), "-ab", 1, -1, -1);
        rangeOf(between(-999, 999, -999, 999), "-ab", 1, -1998, 1998);
        // a less a is 0 of each row, but not by ranges
        rangeOf(between(-7, 2, 0, 0), "-aa", 1, -9, 9);
    }

    private void rangeOfProducts() {
        check.sentence("* the least and the greatest of the four products of l or h with l2 or h2");
        rangeOf(between(2, 3, 5, 7), "*ab", 1, 10, 21);
        rangeOf(between(-3, -2, 5, 7), "*ab", 1, -21, -10);
        rangeOf(between(2, 3, -7, -5), "*ab", 1, -21, -10);
        rangeOf(between(-3, -2, -7, -5), "*ab", 1, 10, 21);
        rangeOf(between(-3, 2, 5, 7), "*ab", 1, -21, 14);
        rangeOf(between(-3, 2, -7, -5), "*ab", 1, -14, 21);
        rangeOf(between(2, 3, -7, 5), "*ab", 1, -21, 15);
        rangeOf(between(-3, -2, -7, 5), "*ab", 1, -15, 21);
        rangeOf(between(-3, 2, -7, 5), "*ab", 1, -15, 21);
        rangeOf(between(-3, 4, -7, 5), "*ab", 1, -28, 21);
        rangeOf(between(-3, 9, -7, 5), "*ab", 1, -63, 45);
        rangeOf(between(0, 0, -7, 5), "*ab", 1, 0, 0);
        rangeOf(between(4, 4, 6, 6), "*ab", 1, 24, 24);
        // a times a is never less than 0, but may be by ranges
        rangeOf(between(-3, 2, 0, 0), "*aa", 1, -6, 9);
    }

    private void rangeOfWhatIsCut() {
        check.sentence("(each cut);");
        rangeOf(withA(-999, 999), "* *aa a", 1, -1000000, 1000000);
        rangeOf(withA(1, 999), "* *aa a", 1, 1, 1000000);
        rangeOf(withA(-999, -1), "* *aa a", 1, -1000000, -1);
        rangeOf(withA(100), "* *aa a", 1, 1000000, 1000000);
        rangeOf(withA(-100), "* *aa a", 1, -1000000, -1000000);
        rangeOf(withA(0), "*" + MILLION + MILLION, 1, 1000000, 1000000);
        rangeOf(withA(0), "*" + MILLION + "~" + MILLION, 1, -1000000, -1000000);
        rangeOf(withA(-1, 1), "+" + MILLION + "a", 1, 999999, 1000000);
        rangeOf(withA(-1, 1), "-" + MILLION + "a", 1, 999999, 1000000);
        rangeOf(withA(-1, 1), "+ ~" + MILLION + "a", 1, -1000000, -999999);
        rangeOf(withA(-1, 1), "- ~" + MILLION + "a", 1, -1000000, -999999);
        rangeOf(withA(0), "+" + MILLION + MILLION, 1, 1000000, 1000000);
        rangeOf(withA(0), "- ~" + MILLION + MILLION, 1, -1000000, -1000000);
        rangeOf(withA(-1, 1), "*" + MILLION + "a", 1, -1000000, 1000000);
        rangeOf(withA(2, 3), "*" + MILLION + "a", 1, 1000000, 1000000);
    }

    private void leftOverWithinOne() {
        check.sentence("% by n: if l and h by n (cut off towards 0) are one, and neither is less than 0 while the other one is greater than 0: what is left of l, of h;");
        rangeOf(withA(7), "%a5", 1, 2, 2);
        rangeOf(withA(-7), "%a5", 1, -2, -2);
        rangeOf(withA(0), "%a5", 1, 0, 0);
        rangeOf(withA(5, 9), "%a5", 1, 0, 4);
        rangeOf(withA(6, 8), "%a5", 1, 1, 3);
        rangeOf(withA(-9, -5), "%a5", 1, -4, 0);
        rangeOf(withA(-8, -6), "%a5", 1, -3, -1);
        rangeOf(withA(1, 4), "%a5", 1, 1, 4);
        rangeOf(withA(-4, -1), "%a5", 1, -4, -1);
        rangeOf(withA(0, 3), "%a5", 1, 0, 3);
        rangeOf(withA(-3, 0), "%a5", 1, -3, 0);
        rangeOf(withA(990, 998), "%a9", 1, 0, 8);
        rangeOf(withA(991, 997), "%a9", 1, 1, 7);
        rangeOf(withA(-997, -991), "%a9", 1, -7, -1);
    }

    private void leftOverOtherwise() {
        check.sentence("else LOW is 0, if l is not less than 0, else l, but -(n - 1) at the least; HIGH 0, if h is not greater than 0, else h, but n - 1 at the most;");
        // l and h by n are both 0, but 0 lies between them
        rangeOf(withA(-1, 1), "%a5", 1, -1, 1);
        rangeOf(withA(-4, 4), "%a5", 1, -4, 4);
        rangeOf(withA(-3, 2), "%a5", 1, -3, 2);
        // they are not one, 0 between them
        rangeOf(withA(-5, 1), "%a5", 1, -4, 1);
        rangeOf(withA(-1, 5), "%a5", 1, -1, 4);
        rangeOf(withA(-5, 5), "%a5", 1, -4, 4);
        rangeOf(withA(-999, 999), "%a9", 1, -8, 8);
        // they are not one, on one side of 0
        rangeOf(withA(4, 5), "%a5", 1, 0, 4);
        rangeOf(withA(9, 10), "%a5", 1, 0, 4);
        rangeOf(withA(6, 11), "%a5", 1, 0, 4);
        rangeOf(withA(-5, -4), "%a5", 1, -4, 0);
        rangeOf(withA(-11, -6), "%a5", 1, -4, 0);
        rangeOf(withA(-6, -2), "%a5", 1, -4, 0);
        // one of them is 0
        rangeOf(withA(0, 5), "%a5", 1, 0, 4);
        rangeOf(withA(-5, 0), "%a5", 1, -4, 0);
        rangeOf(withA(0, 4), "%a5", 1, 0, 4);
        rangeOf(withA(2, 3), "%a3", 1, 0, 2);
        rangeOf(withA(-3, -2), "%a3", 1, -2, 0);
    }

    private void leftOverByOne() {
        check.sentence("but -(n - 1) at the least");
        rangeOf(withA(-999, 999), "%a1", 1, 0, 0);
        rangeOf(withA(-999, -1), "%a1", 1, 0, 0);
        rangeOf(withA(1, 999), "%a1", 1, 0, 0);
        rangeOf(withA(-1, 1), "%a1", 1, 0, 0);
        rangeOf(withA(-1, 1), "%a2", 1, -1, 1);
        rangeOf(withA(-2, 2), "%a2", 1, -1, 1);
        rangeOf(withA(0), "%" + MILLION + "7", 1, 1, 1);
        rangeOf(withA(0), "%~" + MILLION + "7", 1, -1, -1);
    }

    private void bytesWithinOne() {
        check.sentence("y: if h is less than 256 more than l, and the BYTE of l is no greater than that of h: these;");
        rangeOf(withA(5), "ya", 1, 5, 5);
        rangeOf(withA(128), "ya", 1, -128, -128);
        rangeOf(withA(-129), "ya", 1, 127, 127);
        rangeOf(withA(999), "ya", 1, -25, -25);
        rangeOf(withA(-1, 1), "ya", 1, -1, 1);
        rangeOf(withA(-128, 126), "ya", 1, -128, 126);
        rangeOf(withA(-127, 127), "ya", 1, -127, 127);
        // 255 more
        rangeOf(withA(-128, 127), "ya", 1, -128, 127);
        rangeOf(withA(128, 383), "ya", 1, -128, 127);
        rangeOf(withA(128, 382), "ya", 1, -128, 126);
        rangeOf(withA(129, 383), "ya", 1, -127, 127);
        rangeOf(withA(200, 300), "ya", 1, -56, 44);
        rangeOf(withA(256, 257), "ya", 1, 0, 1);
        rangeOf(withA(-384, -130), "ya", 1, -128, 126);
        rangeOf(withA(-300, -200), "ya", 1, -44, 56);
    }

    private void bytesOtherwise() {
        check.sentence("else -128 and 127.");
        // the BYTE of l is greater than that of h
        rangeOf(withA(127, 128), "ya", 1, -128, 127);
        rangeOf(withA(-129, -128), "ya", 1, -128, 127);
        rangeOf(withA(0, 255), "ya", 1, -128, 127);
        rangeOf(withA(100, 140), "ya", 1, -128, 127);
        rangeOf(withA(1, 256), "ya", 1, -128, 127);
        // 256 more and beyond, though the BYTES are one or rise
        rangeOf(withA(0, 256), "ya", 1, -128, 127);
        rangeOf(withA(-128, 128), "ya", 1, -128, 127);
        rangeOf(withA(5, 261), "ya", 1, -128, 127);
        rangeOf(withA(5, 262), "ya", 1, -128, 127);
        rangeOf(withA(-999, 999), "ya", 1, -128, 127);
        rangeOf(withA(0, 257), "ya", 1, -128, 127);
        rangeOf(withA(-1, 1), "y*" + MILLION + "a", 1, -128, 127);
        rangeOf(withA(0, 9), "y-" + MILLION + "a", 1, 55, 64);
    }

    private void whatATruthMayBe() {
        check.sentence("MAY of a TRUTH in a BLOCK (that has ROWS): TRUE (1), FALSE (2), UNKNOWN (4), added.");
        BlockTruths x = between(1, 3, 2, 4);
        mayOf(x, "<01", 1);
        mayOf(x, "<10", 2);
        mayOf(x, "<ab", 3);
        mayOf(x, "<d0", 4);
        mayOf(x, "<0c", 5);
        mayOf(x, "<c0", 6);
        mayOf(x, "<bc", 7);
        check.due("no rows", x.may(4, 0), STATE);
        x.drop(5, 0);
        x.drop(5, 0);
        check.due("no rows any more", x.may(5, 0), STATE);
    }

    private void mayOfMissingTerms() {
        check.sentence("LESS, LIKE: 4, if either TERM may be MISSING; if both may be NUMBERS:");
        BlockTruths x = between(3, 3, 3, 3);
        for (String sign : new String[] {"<", "="}) {
            for (String signs : new String[] {"ad", "da", "cd", "dc", "dd", "d0", "0d"}) {
                mayOf(x, sign + signs, 4);
            }
        }
        mayOf(x, "=ac", 5);
        mayOf(x, "=ca", 5);
        mayOf(x, "=cc", 5);
        mayOf(x, "<ac", 6);
        mayOf(x, "<ca", 6);
        mayOf(x, "<cc", 6);
        mayOf(x, "=ab", 1);
        mayOf(x, "<ab", 2);
    }

    private void mayOfLess() {
        check.sentence("LESS 1, if l is less than h2, 2, if h is no less than l2;");
        mayOf(between(1, 2, 3, 4), "<ab", 1);
        mayOf(between(1, 3, 3, 4), "<ab", 3);
        mayOf(between(1, 2, 3, 4), "<ba", 2);
        mayOf(between(2, 3, 1, 2), "<ab", 2);
        mayOf(between(2, 4, 1, 3), "<ab", 3);
        mayOf(between(5, 5, 5, 5), "<ab", 2);
        mayOf(between(5, 5, 6, 6), "<ab", 1);
        mayOf(between(5, 5, 4, 4), "<ab", 2);
        mayOf(between(5, 5, 4, 6), "<ab", 3);
        mayOf(between(4, 6, 5, 5), "<ab", 3);
        mayOf(between(4, 5, 5, 5), "<ab", 3);
        mayOf(between(5, 6, 5, 5), "<ab", 2);
        mayOf(between(-999, 998, 999, 999), "<ab", 1);
        mayOf(between(1, 2, 0, 0), "<aa", 3);
    }

    private void mayOfLike() {
        check.sentence("LIKE 1, if l is no greater than h2, and l2 no greater than h; 2, if not all of l, h, l2, h2 are one.");
        mayOf(between(5, 5, 5, 5), "=ab", 1);
        mayOf(between(5, 5, 6, 6), "=ab", 2);
        mayOf(between(6, 6, 5, 5), "=ab", 2);
        mayOf(between(1, 2, 3, 4), "=ab", 2);
        mayOf(between(3, 4, 1, 2), "=ab", 2);
        mayOf(between(1, 3, 3, 4), "=ab", 3);
        mayOf(between(3, 4, 1, 3), "=ab", 3);
        mayOf(between(5, 5, 4, 6), "=ab", 3);
        mayOf(between(5, 5, 5, 6), "=ab", 3);
        mayOf(between(5, 5, 4, 5), "=ab", 3);
        mayOf(between(5, 6, 5, 5), "=ab", 3);
        mayOf(between(4, 5, 5, 5), "=ab", 3);
        // by ranges a column may well be other than itself
        mayOf(between(1, 2, 0, 0), "=aa", 3);
        mayOf(between(1, 2, 1, 2), "=ab", 3);
    }

    private void mayOfMissing() {
        check.sentence("MISSING: 1, if any ROW is MISSING, 2, if any is not.");
        mayOf(withA(1), "ma", 2);
        mayOf(withA(M), "ma", 1);
        mayOf(withA(1, M), "ma", 3);
        mayOf(withA(M, M, M, M, M, M, M, M), "ma", 1);
        mayOf(withA(M, M, M, M, M, M, M, 1), "ma", 3);
        mayOf(withA(1, 1, 1, 1, 1, 1, 1, M), "ma", 3);
        BlockTruths x = withA(M, 1);
        x.drop(5, 0);
        mayOf(x, "ma", 2);
        BlockTruths y = withA(M, 1);
        y.drop(5, 1);
        mayOf(y, "ma", 1);
        mayOf(between(1, 1, 1, 1), "mb", 2);
        mayOf(between(1, 1, 1, 1), "mc", 3);
        mayOf(between(1, 1, 1, 1), "md", 1);
    }

    /** Truths of the block between(0, 5, 1, 1), and what each may be: all the seven that there are. */
    private static final String[] TOLD = {"<01", "<10", "=a1", "=d0", "<0c", "<c0", "=ca"};
    private static final int[] MAYS = {1, 2, 3, 4, 5, 6, 7};

    private void mayOfNot() {
        check.sentence("NOT, BOTH, EITHER: all that comes of what each may be.");
        int[] not = {2, 1, 3, 4, 6, 5, 7};
        for (int i = 0; i < TOLD.length; i++) {
            BlockTruths x = between(0, 5, 1, 1);
            mayOf(x, TOLD[i], MAYS[i]);
            mayOf(x, "!" + TOLD[i], not[i]);
            mayOf(x, "!!" + TOLD[i], MAYS[i]);
        }
    }

    private void mayOfBothAndEither() {
        check.sentence("all that comes of what each may be");
        for (int i = 0; i < 7; i++) {
            for (int j = 0; j < 7; j++) {
                BlockTruths x = between(0, 5, 1, 1);
                mayOf(x, "&" + TOLD[i] + TOLD[j], joined(MAYS[i], MAYS[j], false));
                mayOf(x, "|" + TOLD[i] + TOLD[j], joined(MAYS[i], MAYS[j], true));
            }
        }
        // the two sides are looked at each for itself, also where they are one
        BlockTruths x = between(0, 5, 1, 1);
        mayOf(x, "&=a1!=a1", 3);
        mayOf(x, "|=a1!=a1", 3);
    }

    /** BOTH is the least of the two, EITHER the greatest, FALSE being less than UNKNOWN, and this than TRUE. */
    private static int joined(int may, int may2, boolean either) {
        int[] order = {2, 4, 1};
        int made = 0;
        for (int i = 0; i < 3; i++) {
            for (int j = 0; j < 3; j++) {
                if ((may & order[i]) != 0 && (may2 & order[j]) != 0) {
                    made |= order[either ? Math.max(i, j) : Math.min(i, j)];
                }
            }
        }
        return made;
    }

    private void noColumn() {
        check.sentence("Of the whole QUESTION, if there is just one COLUMN in it");
        BlockTruths x = withA(1, 9, M);
        verdictOf(x, "<01", 1, 1);
        verdictOf(x, "<10", 0, 2);
        verdictOf(x, "=%#1239 6", 1, 1);
        // by ranges, which do not see that a number is itself only where it is one
        verdictOf(x, "=+12 3", 1, 1);
        verdictOf(withA(1, 2, 3, 4, 5), "<01", 1, 1);
        verdictOf(withA(M), "!<01", 0, 2);
        verdictOf(new BlockTruths(), "<01", 0, 0);
    }

    private void oneColumn() {
        check.sentence("if there is just one COLUMN in it (as often as it may be), and its LIST is not LOST: just what it is of each NUMBER in the LIST that some ROW has now");
        for (int c = 0; c < 4; c++) {
            BlockTruths x = new BlockTruths();
            x.add(5, 1, 1, 1, 1);
            x.add(5, 9, 9, 9, 9);
            char letter = "abcd".charAt(c);
            verdictOf(x, "=" + letter + "5", 0, 2);
            check.due("by ranges alone", x.may(5, 0), 3);
            verdictOf(x, "!=" + letter + "5", 1, 1);
            check.due("by ranges alone", x.may(5, 0), 3);
            verdictOf(x, "<" + letter + "9", 2, 3);
            verdictOf(x, "m" + letter, 0, 2);
        }
        verdictOf(withA(7), "=a7", 1, 1);
        verdictOf(withA(4, 3, 2, 1), "=a5", 0, 2);
        verdictOf(withA(4, 3, 2, 1), "=a1", 2, 3);
        verdictOf(withA(-999, 999), "=*aa*#999#999", 1, 1);
    }

    private void asOftenAsItMayBe() {
        check.sentence("(as often as it may be)");
        BlockTruths x = withA(-3, 2);
        verdictOf(x, "=aa", 1, 1);
        check.due("by ranges alone", x.may(5, 0), 3);
        verdictOf(x, "<aa", 0, 2);
        verdictOf(x, "<*aa0", 0, 2);
        check.due("by ranges alone", x.may(5, 0), 3);
        verdictOf(x, "&!ma|=-aa0<a~9", 1, 1);
        String thirty = "a".repeat(29);
        verdictOf(x, "=" + "+".repeat(28) + thirty + "a", 0, 2);
        verdictOf(x, "<" + "+".repeat(28) + thirty + "a", 2, 3);
        verdictOf(x, "|ma" + "|ma".repeat(18) + "ma", 0, 2);
    }

    private void moreColumns() {
        check.sentence("if there is just one COLUMN in it");
        BlockTruths x = withA(1, 9);
        verdictOf(x, "=a5", 0, 2);
        verdictOf(x, "|=a5mb", 2, 3);
        verdictOf(x, "|mb=a5", 2, 3);
        verdictOf(x, "=+ab5", 2, 3);
        verdictOf(x, "=a+b5", 2, 3);
        verdictOf(x, "&=a5=b0", 2, 3);
        verdictOf(x, "=aa", 1, 1);
        verdictOf(x, "&=aa=bb", 2, 3);
        verdictOf(x, "&&&=a5=b0=c0=d0", 2, 3);
    }

    private void numbersThatSomeRowHas() {
        check.sentence("just what it is of each NUMBER in the LIST that some ROW has now");
        BlockTruths x = withA(1, 5, 9, 5);
        verdictOf(x, "=a5", 2, 3);
        x.drop(5, 1);
        verdictOf(x, "=a5", 2, 3);
        x.drop(5, 2);
        verdictOf(x, "=a5", 0, 2);
        check.listIs("it is in the list still", x, 5, 0, 1, 1, 5, 0, 9, 1);
        x.drop(5, 0);
        verdictOf(x, "=a9", 1, 1);
        check.due("by ranges alone", x.may(5, 0), 3);
        x.drop(5, 0);
        verdictOf(x, "=a9", 0, 0);
        x.add(5, 5, 0, 0, 0);
        verdictOf(x, "=a5", 1, 1);
    }

    private void missingByTheList() {
        check.sentence("and, if any ROW is MISSING, of MISSING.");
        BlockTruths x = withA(M, M);
        verdictOf(x, "=a5", 0, 4);
        verdictOf(x, "ma", 1, 1);
        verdictOf(x, "!ma", 0, 2);
        verdictOf(x, "|ma=a5", 1, 1);
        x.add(5, 5, 0, 0, 0);
        verdictOf(x, "=a5", 2, 5);
        verdictOf(x, "<a5", 0, 6);
        verdictOf(x, "|ma=a5", 1, 1);
        check.due("by ranges alone", x.may(5, 0), 5);
        verdictOf(x, "&ma=a5", 0, 6);
        check.due("by ranges alone", x.may(5, 0), 7);
        x.drop(5, 0);
        x.drop(5, 0);
        verdictOf(x, "=a5", 1, 1);
        BlockTruths y = withA(5, M);
        y.drop(5, 0);
        verdictOf(y, "=a5", 0, 4);
        verdictOf(y, "ma", 1, 1);
    }

    private void aLostList() {
        check.sentence("and its LIST is not LOST");
        BlockTruths x = withA(1, 3, 7, 9);
        verdictOf(x, "=a5", 0, 2);
        x.add(5, 8, 0, 0, 0);
        verdictOf(x, "=a5", 2, 3);
        verdictOf(x, "=b5", 0, 2);
        x.drop(5, 4);
        verdictOf(x, "=a5", 2, 3);
        x.anew(5);
        verdictOf(x, "=a5", 0, 2);
        BlockTruths y = withA(1, 2, 3, 4, 5);
        verdictOf(y, "=aa", 2, 3);
        verdictOf(y, "<a6", 1, 1);
        verdictOf(y, "<6a", 0, 2);
        y.add(5, M, 0, 0, 0);
        verdictOf(y, "<a6", 2, 5);
        verdictOf(y, "ma", 2, 3);
    }

    private void eachVerdict() {
        check.sentence("VERDICT: a BLOCK without ROWS, or whose QUESTION may not be TRUE, is SKIPPED 0; one of which it may be TRUE alone is TAKEN 1; else it is SCANNED 2.");
        int[] verdicts = {1, 0, 2, 0, 2, 0, 2};
        for (int i = 0; i < 7; i++) {
            // the sign behind keeps the question from being one of a single column
            verdictOf(between(0, 5, 1, 1), "|" + TOLD[i] + "&<10<ab", verdicts[i], MAYS[i]);
        }
        BlockTruths x = withA(1);
        verdictOf(x, "<01", 1, 1);
        x.drop(5, 0);
        verdictOf(x, "<01", 0, 0);
        verdictOf(x, "!<01", 0, 0);
        verdictOf(x, "ma", 0, 0);
        verdictOf(x, "=ab", 0, 0);
    }

    private void neverSkippedNeverWrong() {
        check.sentence("one of which it may be TRUE alone is TAKEN 1");
        BlockTruths x = withA(120, 130);
        // the byte of 130 is less than that of 120, so that ranges of bytes must not be taken from the ends
        verdictOf(x, "=y+ab~#126", 2, 3);
        check.due("a row that is true", x.truth(5, 1), 1);
        check.due("is a match", x.answer(0), 1);
        BlockTruths y = withA(-1, 1);
        verdictOf(y, "=%+ab9 1", 2, 3);
        check.due("a row that is true", y.truth(5, 1), 1);
        BlockTruths z = withA(1, 9);
        z.drop(5, 1);
        verdictOf(z, "<+ab5", 2, 3);
        check.due("all are true, though the block is scanned", z.answer(0), 1);
    }

    private void rangeTells() {
        check.sentence("RANGE of the TERM that begins at a place: what it may be (what = 0), LOW (1), HIGH (2; NONE both: it may be no NUMBER). UNKNOWN, OUTSIDE: there is no such sign, what; NO: there is a FAULT; STATE: no ROWS, or no TERM begins there; all as GONE and it.");
        BlockTruths x = between(1, 2, 3, 4);
        check.ask(x, "&mc<+#120%a7d");
        int[] lows = {STATE, STATE, STATE, STATE, 121, 120, STATE, STATE, STATE, 1, 1, STATE, NONE};
        int[] highs = {STATE, STATE, STATE, STATE, 122, 120, STATE, STATE, STATE, 2, 2, STATE, NONE};
        for (int place = 0; place < lows.length; place++) {
            boolean none = lows[place] == STATE;
            check.rangeIs("each place", x, 5, place, none ? GONE + STATE : lows[place] == NONE ? 2 : 1,
                none ? GONE + STATE : lows[place], none ? GONE + STATE : highs[place]);
        }
        for (int place : new int[] {-1, 13, 60, Integer.MIN_VALUE, Integer.MAX_VALUE}) {
            check.due("no sign " + place, x.range(5, place, 0), GONE + OUTSIDE);
        }
        for (int what : new int[] {-1, 3, Integer.MIN_VALUE, Integer.MAX_VALUE}) {
            check.due("what " + what, x.range(5, 4, what), GONE + OUTSIDE);
        }
        for (int b : new int[] {-1, 6, Integer.MIN_VALUE, Integer.MAX_VALUE}) {
            check.due("no block " + b, x.range(b, 4, 0), GONE + UNKNOWN);
        }
        check.due("no rows", x.range(0, 4, 0), GONE + STATE);
        x.say('0');
        check.due("a fault", x.range(5, 4, 0), GONE + NO);
        check.due("a fault at the sign itself", x.range(5, 13, 0), GONE + NO);
        x.wipe();
        check.due("no sign at all", x.range(5, 0, 0), GONE + OUTSIDE);
    }

    private void mayTells() {
        check.sentence("MAY of the TRUTH that begins at a place, by RANGES alone. UNKNOWN; OUTSIDE: there is no such sign; NO; STATE: no ROWS, or no TRUTH begins there.");
        BlockTruths x = between(1, 9, 1, 1);
        check.ask(x, "&|md!=a#005<%a91");
        int[] due = {3, 1, 1, STATE, 3, 3, STATE, STATE, STATE, STATE, STATE, 3, STATE, STATE, STATE, STATE};
        for (int place = 0; place < due.length; place++) {
            check.due("at " + place, x.may(5, place), due[place]);
        }
        for (int place : new int[] {-1, 16, 60, Integer.MIN_VALUE, Integer.MAX_VALUE}) {
            check.due("no sign " + place, x.may(5, place), OUTSIDE);
        }
        for (int b : new int[] {-1, 6, Integer.MIN_VALUE, Integer.MAX_VALUE}) {
            check.due("no block " + b, x.may(b, 0), UNKNOWN);
        }
        check.due("no rows", x.may(0, 0), STATE);
        check.ask(x, "=a5");
        check.due("by ranges alone", x.may(5, 0), 3);
        check.due("not by the list", x.verdict(5, 1), 2);
        x.say('0');
        check.due("a fault", x.may(5, 0), NO);
        check.due("a fault at the sign itself", x.may(5, 3), NO);
        x.wipe();
        check.due("no sign at all", x.may(5, 0), OUTSIDE);
    }

    private void verdictTells() {
        check.sentence("VERDICT (what = 0), MAY of the QUESTION (1; 0: no ROWS). UNKNOWN; OUTSIDE; NO.");
        BlockTruths x = withA(1, 9);
        check.due("no sign", x.verdict(5, 0), NO);
        check.due("no sign, no rows", x.verdict(0, 1), NO);
        check.ask(x, "<a5");
        check.due("verdict", x.verdict(5, 0), 2);
        check.due("may", x.verdict(5, 1), 3);
        check.due("verdict, no rows", x.verdict(0, 0), 0);
        check.due("may, no rows", x.verdict(0, 1), 0);
        for (int what : new int[] {-1, 2, Integer.MIN_VALUE, Integer.MAX_VALUE}) {
            check.due("what " + what, x.verdict(5, what), OUTSIDE);
            check.due("what " + what + ", no rows", x.verdict(0, what), OUTSIDE);
        }
        for (int b : new int[] {-1, 6, Integer.MIN_VALUE, Integer.MAX_VALUE}) {
            check.due("no block " + b, x.verdict(b, 0), UNKNOWN);
        }
        x.say('0');
        check.due("a fault", x.verdict(5, 0), NO);
        check.due("a fault", x.verdict(5, 1), NO);
    }
}
