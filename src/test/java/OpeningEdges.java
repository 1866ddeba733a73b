/** The document's first lines, 'What it is', clause by clause: what they claim is looked for in whole families of runs. */
final class OpeningEdges {
    private static final int M = Check.MISSING, NONE = Check.NONE;
    /** What may be done to a block in column a: a number comes, one is missing, the first or last row goes, ANEW. */
    private static final int DEEDS = 10;
    private static final int[] BITS = {2, 1, 4};

    private final Check check;

    OpeningEdges(Check check) {
        this.check = check;
    }

    void all() {
        rowsInBlocks();
        whatIsKnown();
        neverTooNarrow();
        trueFalseOrUnknown();
        sumsAndProducts();
        remainders();
        bytes();
        byEachOfFewNumbers();
        skippedTakenOrScanned();
        neverSkippedNeverWrong();
        whatMatchesHaveInCommon();
        images();
    }

    private void rowsInBlocks() {
        check.sentence("What need not be read: rows of four columns lie in blocks, some numbers are missing;");
        BlockTruths x = new BlockTruths();
        for (int b = 0; b < 6; b++) {
            check.due("a row", x.add(b, b, M, -b, 9), 1);
            check.due("one more", x.add(b, M, b, 9, -b), 2);
        }
        for (int b = 0; b < 6; b++) {
            int[][] rows = {{b, M, -b, 9}, {M, b, 9, -b}};
            for (int r = 0; r < 2; r++) {
                for (int c = 0; c < 4; c++) {
                    check.due("cell(" + b + ", " + r + ", " + c + ")", x.cell(b, r, c), rows[r][c]);
                }
            }
        }
    }

    private void whatIsKnown() {
        check.sentence("of each block it is known what is least, what is greatest, how many are missing, and, as long as they are few, which numbers there are, and how often;");
        BlockTruths x = new BlockTruths();
        for (int b = 0; b < 6; b++) {
            for (int r = 0; r <= b; r++) {
                x.add(b, r, r % 2 == 0 ? M : -r, 7, M);
            }
            check.summaryIs("a", x, b, 0, 0, b, 0, b < 4 ? b + 1 : NONE, 0);
            check.due("b is missing", x.summary(b, 1, 2), b / 2 + 1);
            check.listIs("c", x, b, 2, 7, b + 1);
            check.summaryIs("d", x, b, 3, NONE, NONE, b + 1, 0, 0);
        }
    }

    /** All runs of five deeds, on a block that has three rows, unlike in column a. */
    private void neverTooNarrow() {
        check.sentence("what goes leaves that as it was, so it may be stale, but it never is too narrow;");
        int stale = 0;
        for (int run = 0; run < DEEDS * DEEDS * DEEDS * DEEDS * DEEDS; run++) {
            BlockTruths x = new BlockTruths();
            for (int a = 0; a < 3; a++) {
                x.add(0, a, 0, 0, 0);
            }
            int rest = run;
            for (int i = 0; i < 5; i++) {
                act(x, rest % DEEDS);
                rest /= DEEDS;
            }
            stale += x.summary(0, 0, 4);
            nothingIsLeftOut("run " + run, x);
        }
        check.holds("many were stale", stale > 10000);
    }

    private static void act(BlockTruths x, int deed) {
        if (deed < 6) {
            x.add(0, deed - 1, 0, 0, 0);
        } else if (deed == 6) {
            x.add(0, M, 0, 0, 0);
        } else if (deed == 7) {
            x.drop(0, 0);
        } else if (deed == 8) {
            x.drop(0, x.told(10) - 1);
        } else {
            x.anew(0);
        }
    }

    private void nothingIsLeftOut(String run, BlockTruths x) {
        int rows = x.told(10);
        int[] times = new int[7];
        int missing = 0;
        for (int r = 0; r < rows; r++) {
            int a = x.cell(0, r, 0);
            if (a == M) {
                missing++;
            } else {
                times[a + 1]++;
                check.holds(run + ": none is less than the least", x.summary(0, 0, 0) <= a);
                check.holds(run + ": none is greater than the greatest", x.summary(0, 0, 1) >= a);
            }
        }
        check.due(run + ": missing", x.summary(0, 0, 2), missing);
        int listed = x.summary(0, 0, 3);
        int seen = 0;
        for (int i = 0; i < listed; i++) {
            check.due(run + ": how often", x.listed(0, 0, i, 1), times[x.listed(0, 0, i, 0) + 1]);
            seen += x.listed(0, 0, i, 1);
        }
        check.holds(run + ": each number is in the list", listed == NONE || seen == rows - missing);
    }

    private void trueFalseOrUnknown() {
        check.sentence("a question is told by signs, and is true, false, or unknown of a row;");
        BlockTruths x = new BlockTruths();
        x.add(3, 1, 2, 0, 0);
        x.add(3, 2, 1, 0, 0);
        x.add(3, M, 1, 0, 0);
        check.ask(x, "<ab");
        check.due("true", x.truth(3, 0), 1);
        check.due("false", x.truth(3, 1), 0);
        check.due("unknown", x.truth(3, 2), 2);
    }

    /** A block in which a is from l to h, and b from l2 to h2, is asked of a TERM of both. */
    private static int[] rangeOf(Check check, int[] ends, String term) {
        BlockTruths x = new BlockTruths();
        x.add(1, ends[0], ends[2], 0, 0);
        x.add(1, ends[1], ends[3], 0, 0);
        check.ask(x, "=" + term + "0");
        check.due("it is a number", x.range(1, 1, 0), 1);
        return new int[] {x.range(1, 1, 1), x.range(1, 1, 2)};
    }

    /** The range holds all that the rows may make, and its ends are made by some. */
    private void sumsAndProducts() {
        check.sentence("of a block it is told by ranges which of these it can be: by sums, products, remainders,");
        for (int l = -4; l <= 4; l += 2) {
            for (int h = l; h <= 4; h += 2) {
                for (int l2 = -3; l2 <= 3; l2++) {
                    for (int h2 = l2; h2 <= 3; h2++) {
                        for (char sign : "+-*".toCharArray()) {
                            holdsAll(sign, l, h, l2, h2);
                        }
                    }
                }
            }
        }
    }

    private void holdsAll(char sign, int l, int h, int l2, int h2) {
        int least = Integer.MAX_VALUE;
        int greatest = Integer.MIN_VALUE;
        for (int a = l; a <= h; a++) {
            for (int b = l2; b <= h2; b++) {
                int made = sign == '+' ? a + b : sign == '-' ? a - b : a * b;
                least = Math.min(least, made);
                greatest = Math.max(greatest, made);
            }
        }
        int[] range = rangeOf(check, new int[] {l, h, l2, h2}, sign + "ab");
        String what = sign + " of " + l + " to " + h + " and " + l2 + " to " + h2;
        check.due(what + ", low", range[0], least);
        check.due(what + ", high", range[1], greatest);
    }

    private void remainders() {
        check.sentence("by sums, products, remainders,");
        for (int l = -21; l <= 21; l++) {
            for (int h = l; h <= 21; h++) {
                for (int n = 1; n <= 9; n++) {
                    int[] range = rangeOf(check, new int[] {l, h, 0, 0}, "%a" + n);
                    boolean holds = true;
                    for (int a = l; a <= h; a++) {
                        holds &= range[0] <= a % n && a % n <= range[1];
                    }
                    check.holds("what is left of " + l + " to " + h + " by " + n, holds);
                    check.holds("no more than can be left by " + n, range[0] > -n && range[1] < n);
                }
            }
        }
    }

    private void bytes() {
        check.sentence("by what is cut to a byte, which does not always rise with what it is cut from;");
        int[] ends = {-999, -640, -385, -384, -383, -257, -256, -255, -129, -128, -127, -1, 0, 1, 126, 127, 128, 129,
            255, 256, 257, 383, 384, 385, 639, 640, 999};
        for (int l : ends) {
            for (int h : ends) {
                if (l <= h) {
                    int[] range = rangeOf(check, new int[] {l, h, 0, 0}, "ya");
                    boolean holds = true;
                    for (int a = l; a <= h; a++) {
                        holds &= range[0] <= (byte) a && (byte) a <= range[1];
                    }
                    check.holds("bytes of " + l + " to " + h, holds);
                }
            }
        }
        BlockTruths x = new BlockTruths();
        x.add(0, 127, 128, 0, 0);
        check.ask(x, "& <ab <ybya");
        check.due("128 is more than 127, its byte is less", x.truth(0, 0), 1);
    }

    private void byEachOfFewNumbers() {
        check.sentence("where few numbers are, by each of them;");
        BlockTruths x = new BlockTruths();
        for (int a : new int[] {1, 3, 7, 9}) {
            x.add(0, a, 0, 0, 0);
        }
        check.ask(x, "=%a20");
        check.due("an even one may be, by the range", x.may(0, 0), 3);
        check.due("none is even", x.verdict(0, 1), 2);
        check.due("so it is skipped", x.verdict(0, 0), 0);
        x.add(0, 5, 0, 0, 0);
        check.due("there are many now", x.verdict(0, 1), 3);
        check.due("so it is scanned", x.verdict(0, 0), 2);
    }

    private void skippedTakenOrScanned() {
        check.sentence("so a block is skipped, taken whole, or scanned;");
        BlockTruths x = new BlockTruths();
        x.add(0, 5, 6, 0, 0);
        x.add(0, 7, 8, 0, 0);
        check.ask(x, "<ba");
        check.due("it may be both", x.verdict(0, 0), 2);
        check.ask(x, "<a9");
        check.due("it is true of all", x.verdict(0, 0), 1);
        check.ask(x, "<ac");
        check.due("it is true of none", x.verdict(0, 0), 0);
    }

    private void neverSkippedNeverWrong() {
        check.sentence("a row that is true of the question is never skipped, one that is taken whole is never wrong;");
        String[] questions = {"<a5", "=a5", "!=a5", "ma", "!ma", "&!ma<a6", "|ma<6a", "=%a30", "=%~a3~1", "<ya0",
            "=y*a#1000", "<ab", "=ab", "<+abc", "=-abd", "<*ab*cd", "=%*ab5%c5", "&<ab<bc", "|=abmc", "!|<ab<cd",
            "=y+a#120yb", "<%-ab7%c4", "&|ma=ab!&mb=cd", "<**a#999#999*~b#999", "=+a~a0", "<0*aa", "!<*aa0"};
        int[] seen = new int[3];
        for (int seed = 0; seed < 1200; seed++) {
            BlockTruths x = new BlockTruths();
            int width = new int[] {2, 4, 9, 300}[seed % 4];
            for (int i = 0; i < 10; i++) {
                x.add(0, numberOf(seed, i, 0, width), numberOf(seed, i, 1, width), numberOf(seed, i, 2, width), numberOf(seed, i, 3, width));
                if (i % 3 == 2) {
                    x.drop(0, seed % 2);
                }
            }
            String question = questions[seed % questions.length];
            check.ask(x, question);
            check.due(question + " has no fault", x.fault(), NONE);
            seen[judged("seed " + seed, x)]++;
        }
        check.holds("each verdict was seen", seen[0] > 50 && seen[1] > 50 && seen[2] > 50);
    }

    private static int numberOf(int seed, int row, int column, int width) {
        int mixed = (seed * 7919 + row * 104729 + column * 1299709) * 0x9E3779B1 >>> 7;
        return mixed % 11 == 0 ? M : mixed / 11 % (2 * width + 1) - width;
    }

    private int judged(String run, BlockTruths x) {
        int verdict = x.verdict(0, 0);
        int matches = 0;
        for (int r = 0; r < x.told(10); r++) {
            int truth = x.truth(0, r);
            matches += truth == 1 ? 1 : 0;
            check.holds(run + ": what is, may be", (x.verdict(0, 1) & x.may(0, 0) & BITS[truth]) != 0);
        }
        check.holds(run + ": no match is skipped", verdict != 0 || matches == 0);
        check.holds(run + ": all that is taken matches", verdict != 1 || matches == x.told(10));
        check.due(run + ": matches", x.answer(0), matches);
        return verdict;
    }

    private void whatMatchesHaveInCommon() {
        check.sentence("what all that is true has in common is told, how many unlike rows, least, greatest, sums, and how many rows had to be looked at;");
        BlockTruths x = new BlockTruths();
        x.add(0, 1, -5, 0, 0);
        x.add(0, 1, -5, 0, 0);
        x.add(1, 1, 8, 0, 0);
        x.add(1, 2, 9, 0, 0);
        x.add(2, 2, 10, 0, 0);
        check.ask(x, "=a1");
        int[] answers = {3, 2, 2, 0b111100, 0b000001, 0b000010};
        for (int what = 0; what < 6; what++) {
            check.due("answer(" + what + ")", x.answer(what), answers[what]);
        }
        int[] totals = {-5, 8, -2, 0, 2};
        for (int what = 0; what < 5; what++) {
            check.due("total(1, " + what + ")", x.total(1, what), totals[what]);
        }
    }

    private void images() {
        check.sentence("images.");
        BlockTruths x = new BlockTruths();
        x.add(0, 1, 2, 3, 4);
        check.due("kept", x.image(1), 1);
        x.drop(0, 0);
        check.due("gone", x.told(1), 0);
        check.due("restored", x.restore(1), 1);
        check.due("there again", x.told(1), 1);
    }
}
