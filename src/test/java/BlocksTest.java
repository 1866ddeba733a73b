/** Promises 12 to 18: what a question may be of a block, what all matches have in common, images. */
public final class BlocksTest {
    private static final Check check = new Check();
    private static final int M = Check.MISSING, NONE = Check.NONE, GONE = Check.GONE;
    private static final String MILLION = "**#100#100#100";

    public static void main(String[] args) {
        promise12Refusals();
        promise12Columns();
        promise12Sums();
        promise12LeftOver();
        promise12Bytes();
        promise12Missing();
        promise13Refusals();
        promise13Compared();
        promise13Joined();
        promise14Verdict();
        promise14ByList();
        promise15Answer();
        promise15Unlike();
        promise16Total();
        promise16RowsToRead();
        promise17And18Images();
        check.end("BlocksTest");
    }

    private static void promise12Refusals() {
        BlockTruths x = new BlockTruths();
        x.add(0, 1, 2, 3, 4);
        check.ask(x, "<#123%a4");
        for (int b : new int[] {-1, 6, Integer.MIN_VALUE, Integer.MAX_VALUE}) {
            check.due("12 no block", x.range(b, 99, 9), GONE + Check.UNKNOWN);
        }
        for (int place : new int[] {-1, 8, 60, Integer.MIN_VALUE, Integer.MAX_VALUE}) {
            check.due("12 no sign " + place, x.range(0, place, 0), GONE + Check.OUTSIDE);
        }
        check.due("12 what -1", x.range(0, 1, -1), GONE + Check.OUTSIDE);
        check.due("12 what 3", x.range(0, 1, 3), GONE + Check.OUTSIDE);
        check.due("12 a truth", x.range(0, 0, 0), GONE + Check.STATE);
        rangeIs(x, 0, 1, 1, 123, 123);
        check.due("12 a figure of three", x.range(0, 2, 0), GONE + Check.STATE);
        check.due("12 a figure of three", x.range(0, 4, 0), GONE + Check.STATE);
        rangeIs(x, 0, 5, 1, 1, 1);
        rangeIs(x, 0, 6, 1, 1, 1);
        check.due("12 a divisor", x.range(0, 7, 0), GONE + Check.STATE);
        check.due("12 no rows", x.range(1, 1, 0), GONE + Check.STATE);
        check.due("12 no rows, what outside", x.range(1, 1, 3), GONE + Check.OUTSIDE);
        x.say('a');
        check.due("12 a fault", x.range(0, 1, 0), GONE + Check.NO);
        check.due("12 a fault, no rows", x.range(1, 1, 0), GONE + Check.NO);
        check.due("12 a fault, what outside", x.range(0, 1, 3), GONE + Check.OUTSIDE);
        check.due("12 a fault, no sign", x.range(0, 9, 0), GONE + Check.OUTSIDE);
        check.ask(x, "|ma<b1");
        check.due("12 a letter behind m", x.range(0, 2, 0), GONE + Check.STATE);
        check.due("12 m", x.range(0, 1, 0), GONE + Check.STATE);
        rangeIs(x, 0, 4, 1, 2, 2);
        rangeIs(x, 0, 5, 1, 1, 1);
    }

    private static void promise12Columns() {
        BlockTruths x = new BlockTruths();
        x.add(0, -5, 4, M, M);
        x.add(0, 9, M, M, 3);
        check.ask(x, "<+ab+cd");
        rangeIs(x, 0, 2, 1, -5, 9);
        rangeIs(x, 0, 3, 3, 4, 4);
        rangeIs(x, 0, 5, 2, NONE, NONE);
        rangeIs(x, 0, 6, 3, 3, 3);
        x.drop(0, 1);
        // a is wider than it need be; d had a number, but only missing ones are left
        rangeIs(x, 0, 2, 1, -5, 9);
        rangeIs(x, 0, 3, 1, 4, 4);
        rangeIs(x, 0, 6, 2, NONE, NONE);
        x.anew(0);
        rangeIs(x, 0, 2, 1, -5, -5);
    }

    private static void promise12Sums() {
        rangeOf("a", new int[] {-3, 2}, 1, -3, 2);
        rangeOf("~a", new int[] {-3, 2}, 1, -2, 3);
        rangeOf("+a#100", new int[] {-3, 2}, 1, 97, 102);
        rangeOf("+aa", new int[] {-3, 2}, 1, -6, 4);
        rangeOf("-a1", new int[] {-3, 2}, 1, -4, 1);
        rangeOf("-1a", new int[] {-3, 2}, 1, -1, 4);
        rangeOf("-aa", new int[] {-3, 2}, 1, -5, 5);
        rangeOf("*aa", new int[] {-3, 2}, 1, -6, 9);
        rangeOf("*a~4", new int[] {-3, 2}, 1, -8, 12);
        rangeOf("*a+a5", new int[] {-3, 2}, 1, -21, 14);
        rangeOf("*~4~a", new int[] {-3, 2}, 1, -12, 8);
        rangeOf("*aa", new int[] {-3, -2}, 1, 4, 9);
        rangeOf("*a0", new int[] {-3, -2}, 1, 0, 0);
        rangeOf("**aaa", new int[] {-999, 999}, 1, -1000000, 1000000);
        rangeOf("**aaa", new int[] {-999, 2}, 1, -1000000, 1000000);
        rangeOf("**aaa", new int[] {1, 999}, 1, 1, 1000000);
        rangeOf("+" + MILLION + "a", new int[] {-3, 2}, 1, 999997, 1000000);
        rangeOf("-~" + MILLION + "a", new int[] {-3, 2}, 1, -1000000, -999997);
        rangeOf("-" + MILLION + "a", new int[] {-3, 2}, 1, 999998, 1000000);
        rangeOf("*" + MILLION + "a", new int[] {-3, 2}, 1, -1000000, 1000000);
        rangeOf("*" + MILLION + "~" + MILLION, new int[] {0}, 1, -1000000, -1000000);
    }

    private static void promise12LeftOver() {
        rangeOf("%a5", new int[] {11, 13}, 1, 1, 3);
        rangeOf("%a5", new int[] {10, 14}, 1, 0, 4);
        rangeOf("%a5", new int[] {10, 15}, 1, 0, 4);
        rangeOf("%a5", new int[] {9, 10}, 1, 0, 4);
        rangeOf("%a5", new int[] {1, 3}, 1, 1, 3);
        rangeOf("%a5", new int[] {0, 3}, 1, 0, 3);
        rangeOf("%a9", new int[] {3, 12}, 1, 0, 8);
        rangeOf("%a5", new int[] {-13, -11}, 1, -3, -1);
        rangeOf("%a5", new int[] {-10, -9}, 1, -4, 0);
        rangeOf("%a5", new int[] {-3, 0}, 1, -3, 0);
        rangeOf("%a5", new int[] {-7, 0}, 1, -4, 0);
        rangeOf("%a5", new int[] {0, 7}, 1, 0, 4);
        // both by 5 are 0, but they lie on either side of 0
        rangeOf("%a5", new int[] {-3, 2}, 1, -3, 2);
        rangeOf("%a5", new int[] {-3, 20}, 1, -3, 4);
        rangeOf("%a5", new int[] {-20, 3}, 1, -4, 3);
        rangeOf("%a5", new int[] {-20, 20}, 1, -4, 4);
        rangeOf("%a1", new int[] {-20, 20}, 1, 0, 0);
        rangeOf("%a1", new int[] {7, 7}, 1, 0, 0);
        rangeOf("%%a95", new int[] {8, 10}, 1, 0, 4);
        rangeOf("%#1239", new int[] {0}, 1, 6, 6);
        rangeOf("%~#1239", new int[] {0}, 1, -6, -6);
    }

    private static void promise12Bytes() {
        rangeOf("ya", new int[] {-128, 127}, 1, -128, 127);
        rangeOf("ya", new int[] {-5, 100}, 1, -5, 100);
        rangeOf("ya", new int[] {127, 128}, 1, -128, 127);
        rangeOf("ya", new int[] {128, 130}, 1, -128, -126);
        rangeOf("ya", new int[] {128, 383}, 1, -128, 127);
        rangeOf("ya", new int[] {128, 384}, 1, -128, 127);
        rangeOf("ya", new int[] {300, 310}, 1, 44, 54);
        rangeOf("ya", new int[] {-129, -128}, 1, -128, 127);
        rangeOf("ya", new int[] {-300, -290}, 1, -44, -34);
        // 255 more, 256 more: the BYTES rise or are one, but only the first fits
        rangeOf("ya", new int[] {0, 255}, 1, -128, 127);
        rangeOf("ya", new int[] {10, 266}, 1, -128, 127);
        rangeOf("ya", new int[] {10, 270}, 1, -128, 127);
        rangeOf("ya", new int[] {10, 10}, 1, 10, 10);
        rangeOf("ya", new int[] {120, 200}, 1, -128, 127);
    }

    private static void promise12Missing() {
        rangeOf("a", new int[] {M, 2}, 3, 2, 2);
        rangeOf("a", new int[] {M, M}, 2, NONE, NONE);
        for (String term : new String[] {"~a", "ya", "%a3", "+a1", "+1a", "-a1", "-1a", "*a0", "*0a", "+aa", "~+a1"}) {
            rangeOf(term, new int[] {M}, 2, NONE, NONE);
        }
        rangeOf("+1a", new int[] {M, 2}, 3, 3, 3);
        rangeOf("*a0", new int[] {M, 2}, 3, 0, 0);
        rangeOf("%a3", new int[] {M, 5}, 3, 2, 2);
        rangeOf("y~a", new int[] {M, 5}, 3, -5, -5);
        rangeOf("7", new int[] {M}, 1, 7, 7);
        BlockTruths x = new BlockTruths();
        x.add(0, M, 1, 2, 3);
        x.add(0, M, M, 2, 3);
        check.ask(x, "<+ab*bc");
        rangeIs(x, 0, 1, 2, NONE, NONE);
        rangeIs(x, 0, 4, 3, 2, 2);
    }

    /** RANGE of a TERM about a, in a BLOCK whose ROWS have these in a. */
    private static void rangeOf(String term, int[] values, int kind, int low, int high) {
        BlockTruths x = new BlockTruths();
        for (int a : values) {
            x.add(4, a, 0, 0, 0);
        }
        // what an earlier question was told must not be told again
        check.ask(x, "=99");
        x.may(4, 0);
        check.ask(x, "=0" + term);
        rangeIs(x, 4, 2, kind, low, high);
        check.ask(x, "=" + term + "0");
        rangeIs(x, 4, 1, kind, low, high);
    }

    private static void rangeIs(BlockTruths x, int block, int place, int kind, int low, int high) {
        String call = "12 range at " + place;
        check.due(call + ", what", x.range(block, place, 0), kind);
        check.due(call + ", low", x.range(block, place, 1), low);
        check.due(call + ", high", x.range(block, place, 2), high);
    }

    private static void promise13Refusals() {
        BlockTruths x = new BlockTruths();
        x.add(0, 1, 2, 3, 4);
        check.ask(x, "&ma!<#1234");
        for (int b : new int[] {-1, 6, Integer.MIN_VALUE, Integer.MAX_VALUE}) {
            check.due("13 no block", x.may(b, 99), Check.UNKNOWN);
        }
        for (int place : new int[] {-1, 10, Integer.MIN_VALUE, Integer.MAX_VALUE}) {
            check.due("13 no sign", x.may(0, place), Check.OUTSIDE);
        }
        int[] due = {2, 2, Check.STATE, 1, 2, Check.STATE, Check.STATE, Check.STATE, Check.STATE, Check.STATE};
        for (int place = 0; place < due.length; place++) {
            check.due("13 at " + place, x.may(0, place), due[place]);
        }
        check.due("13 no rows", x.may(3, 0), Check.STATE);
        check.due("13 no rows, no sign", x.may(3, 10), Check.OUTSIDE);
        x.say('z');
        check.due("13 a fault", x.may(0, 0), Check.NO);
        check.due("13 a fault, no rows", x.may(3, 0), Check.NO);
        check.due("13 a fault, no sign", x.may(0, 11), Check.OUTSIDE);
        x.wipe();
        check.due("13 no sign at all", x.may(0, 0), Check.OUTSIDE);
    }

    private static void promise13Compared() {
        BlockTruths x = new BlockTruths();
        x.add(0, 1, 3, 5, M);
        x.add(0, 3, 6, 5, M);
        x.add(1, 1, M, M, 2);
        mayIs(x, 0, "<ab", 3);
        mayIs(x, 0, "<ba", 2);
        mayIs(x, 0, "<ac", 1);
        mayIs(x, 0, "<ca", 2);
        mayIs(x, 0, "<bc", 3);
        mayIs(x, 0, "<cc", 2);
        mayIs(x, 0, "<aa", 3);
        mayIs(x, 0, "=ab", 3);
        mayIs(x, 0, "=ac", 2);
        mayIs(x, 0, "=ca", 2);
        mayIs(x, 0, "=cc", 1);
        mayIs(x, 0, "=c5", 1);
        mayIs(x, 0, "=aa", 3);
        mayIs(x, 0, "=a4", 2);
        mayIs(x, 0, "=a2", 3);
        mayIs(x, 0, "=2a", 3);
        mayIs(x, 0, "<ad", 4);
        mayIs(x, 0, "=dd", 4);
        x.add(0, M, 3, 5, M);
        mayIs(x, 0, "<ac", 5);
        mayIs(x, 0, "<ca", 6);
        mayIs(x, 0, "=ab", 7);
        mayIs(x, 0, "<ad", 4);
        mayIs(x, 0, "ma", 3);
        mayIs(x, 0, "mb", 2);
        mayIs(x, 0, "md", 1);
        mayIs(x, 1, "<bc", 4);
        mayIs(x, 1, "<ad", 1);
    }

    private static void promise13Joined() {
        // a may be any, b is 1, c is missing: parts of which each MAY is known
        String[] told = {"<b0", "<0b", "<c0", "ma", "=0*0a", "<b+*ca1", "=a1"};
        int[] mays = {2, 1, 4, 3, 5, 4, 7};
        for (int i = 0; i < told.length; i++) {
            BlockTruths x = threeRows();
            mayIs(x, 2, told[i], mays[i]);
            mayIs(x, 2, "!" + told[i], notOf(mays[i]));
            mayIs(x, 2, "!!" + told[i], mays[i]);
            for (int j = 0; j < told.length; j++) {
                x = threeRows();
                int both = joined(mays[i], mays[j], false);
                int either = joined(mays[i], mays[j], true);
                mayIs(x, 2, "&" + told[i] + told[j], both);
                mayIs(x, 2, "|" + told[i] + told[j], either);
                mayIs(x, 2, "!&" + told[i] + told[j], notOf(both));
                // parts are told as well as the whole
                check.ask(x, "|&" + told[i] + told[j] + "ma");
                check.due("13 first part", x.may(2, 1), both);
                check.due("13 part of a part", x.may(2, 2), mays[i]);
                check.due("13 second part of a part", x.may(2, 2 + told[i].length()), mays[j]);
            }
        }
    }

    private static BlockTruths threeRows() {
        BlockTruths x = new BlockTruths();
        x.add(2, 0, 1, M, 0);
        x.add(2, 5, 1, M, 0);
        x.add(2, M, 1, M, 0);
        return x;
    }

    private static int notOf(int may) {
        return (may & 1) << 1 | (may & 2) >> 1 | may & 4;
    }

    /** By the least of what each may be (FALSE, UNKNOWN, TRUE in this order), or the greatest. */
    private static int joined(int may, int may2, boolean either) {
        int[] order = {2, 4, 1};
        int made = 0;
        for (int i = 0; i < 3; i++) {
            for (int j = 0; j < 3; j++) {
                if ((may & order[i]) != 0 && (may2 & order[j]) != 0) {
                    made |= order[either ? Math.max(i, j) : Math.min(i, j)];
                }
            }
        }
        return made;
    }

    private static void mayIs(BlockTruths x, int block, String signs, int due) {
        check.ask(x, signs);
        check.due("13 may of " + signs, x.may(block, 0), due);
    }

    private static void promise14Verdict() {
        BlockTruths x = new BlockTruths();
        x.add(0, 1, 5, 2, M);
        x.add(0, 2, 6, 9, M);
        check.ask(x, "<ab");
        for (int b : new int[] {-1, 6, Integer.MIN_VALUE, Integer.MAX_VALUE}) {
            check.due("14 no block", x.verdict(b, 7), Check.UNKNOWN);
        }
        check.due("14 what -1", x.verdict(0, -1), Check.OUTSIDE);
        check.due("14 what 2", x.verdict(0, 2), Check.OUTSIDE);
        x.say('<');
        check.due("14 a fault", x.verdict(0, 0), Check.NO);
        check.due("14 a fault, no rows", x.verdict(1, 1), Check.NO);
        check.due("14 a fault, what outside", x.verdict(0, 2), Check.OUTSIDE);
        verdictIs(x, 0, "<ab", 1, 1);
        verdictIs(x, 0, "<ba", 0, 2);
        verdictIs(x, 0, "<ac", 2, 3);
        verdictIs(x, 0, "=ad", 0, 4);
        verdictIs(x, 0, "!=ad", 0, 4);
        verdictIs(x, 0, "|<ab=ad", 1, 1);
        verdictIs(x, 0, "|<ba=ad", 0, 4);
        verdictIs(x, 0, "&<ab=ad", 0, 4);
        verdictIs(x, 0, "&<ac=ad", 0, 6);
        verdictIs(x, 0, "|<ac=ad", 2, 5);
        verdictIs(x, 0, "<01", 1, 1);
        verdictIs(x, 0, "<10", 0, 2);
        verdictIs(x, 1, "<01", 0, 0);
        verdictIs(x, 1, "ma", 0, 0);
        x.drop(0, 0);
        x.drop(0, 0);
        verdictIs(x, 0, "<01", 0, 0);
        verdictIs(x, 0, "=a1", 0, 0);
    }

    private static void promise14ByList() {
        BlockTruths x = new BlockTruths();
        x.add(0, 1, 0, 0, 0);
        x.add(0, 9, 0, 0, 0);
        listIs(x, "=a5", 0, 2, 3);
        listIs(x, "!=a5", 1, 1, 3);
        listIs(x, "=aa", 1, 1, 3);
        listIs(x, "<aa", 0, 2, 3);
        listIs(x, "=%a81", 1, 1, 3);
        listIs(x, "|ma=a5", 0, 2, 3);
        listIs(x, "=*ab5", 0, 2, 2);
        // two columns: by ranges alone
        listIs(x, "&=a5=b0", 2, 3, 3);
        x.add(0, M, 0, 0, 0);
        listIs(x, "=a5", 0, 6, 7);
        listIs(x, "!=a5", 2, 5, 7);
        listIs(x, "|ma!=a5", 1, 1, 7);
        listIs(x, "ma", 2, 3, 3);
        x.drop(0, 0);
        // no row has 1 now, though it is in the list still
        listIs(x, "=a1", 0, 6, 7);
        listIs(x, "<5a", 2, 5, 7);
        x.drop(0, 0);
        listIs(x, "<5a", 0, 4, 4);
        listIs(x, "ma", 1, 1, 1);
        lostListIsNotUsed();
        columnsOfTheWholePad();
    }

    /** A pad that is full, and one where signs of a longer question were. */
    private static void columnsOfTheWholePad() {
        BlockTruths x = new BlockTruths();
        x.add(0, 1, 0, 0, 0);
        x.add(0, 9, 0, 0, 0);
        listIs(x, "!".repeat(57) + "=a5", 1, 1, 3);
        listIs(x, "=a" + "~".repeat(57) + "b", 0, 2, 2);
        listIs(x, "=a" + "~".repeat(57) + "5", 0, 2, 2);
        listIs(x, "=ab", 0, 2, 2);
        listIs(x, "=a5", 0, 2, 3);
        listIs(x, "!&=a5=b0", 2, 3, 3);
        listIs(x, "&=a5=a5", 0, 2, 3);
    }

    private static void lostListIsNotUsed() {
        BlockTruths x = new BlockTruths();
        for (int n : new int[] {1, 3, 7, 9}) {
            x.add(0, n, 0, 0, 0);
        }
        listIs(x, "=a5", 0, 2, 3);
        x.add(0, 8, 0, 0, 0);
        listIs(x, "=a5", 2, 3, 3);
        x.drop(0, 4);
        listIs(x, "=a5", 2, 3, 3);
        x.anew(0);
        listIs(x, "=a5", 0, 2, 3);
    }

    private static void listIs(BlockTruths x, String signs, int verdict, int mayOfAll, int mayByRanges) {
        verdictIs(x, 0, signs, verdict, mayOfAll);
        check.due("14 by ranges alone " + signs, x.may(0, 0), mayByRanges);
    }

    private static void verdictIs(BlockTruths x, int block, String signs, int verdict, int may) {
        check.ask(x, signs);
        check.due("14 verdict of " + signs, x.verdict(block, 0), verdict);
        check.due("14 may of all of " + signs, x.verdict(block, 1), may);
    }

    private static void promise15Answer() {
        BlockTruths x = new BlockTruths();
        check.due("15 what -1", x.answer(-1), Check.OUTSIDE);
        check.due("15 what 6", x.answer(6), Check.OUTSIDE);
        check.due("15 what MIN", x.answer(Integer.MIN_VALUE), Check.OUTSIDE);
        check.due("15 a fault", x.answer(0), Check.NO);
        check.due("15 a fault", x.answer(5), Check.NO);
        x.add(0, 1, 5, 0, 0);
        x.add(0, 2, 5, 0, 0);
        x.add(1, 6, 5, 0, 0);
        x.add(3, 1, 5, 0, 0);
        x.add(3, 9, 5, 0, 0);
        x.add(3, M, 5, 0, 0);
        x.add(4, 1, M, 0, 0);
        x.add(5, 1, 5, 0, 0);
        answersAre(x, "<ab", new int[] {4, 2, 3, 22, 33, 8});
        answersAre(x, "!<ab", new int[] {2, 2, 3, 53, 2, 8});
        answersAre(x, "=ab", new int[] {0, 0, 3, 55, 0, 8});
        answersAre(x, "<01", new int[] {8, 6, 0, 4, 59, 0});
        answersAre(x, "ma", new int[] {1, 1, 3, 55, 0, 8});
        answersAre(new BlockTruths(), "<01", new int[] {0, 0, 0, 63, 0, 0});
    }

    private static void answersAre(BlockTruths x, String signs, int[] due) {
        check.ask(x, signs);
        for (int what = 0; what < due.length; what++) {
            check.due("15 answer(" + what + ") of " + signs, x.answer(what), due[what]);
        }
    }

    /** As many rows as there may be, all unlike; then all alike. */
    private static void promise15Unlike() {
        BlockTruths x = new BlockTruths();
        BlockTruths y = new BlockTruths();
        for (int i = 0; i < 48; i++) {
            x.add(i / 8, i % 2 == 0 ? 999 : M, i % 3 == 0 ? -999 : M, i, -i);
            y.add(i / 8, 999, M, -999, 0);
        }
        answersAre(x, "<01", new int[] {48, 48, 0, 0, 63, 0});
        answersAre(y, "<01", new int[] {48, 1, 0, 0, 63, 0});
        check.due("15 all rows", x.told(1), 48);
        check.due("15 unlike in a block", x.told(25), 8);
        check.due("15 unlike in a block", y.told(25), 1);
        for (int b = 0; b < 6; b++) {
            check.due("15 full", x.add(b, 0, 0, 0, 0), Check.FULL);
        }
    }

    private static void promise16Total() {
        BlockTruths x = new BlockTruths();
        for (int column : new int[] {-1, 4, Integer.MIN_VALUE, Integer.MAX_VALUE}) {
            check.due("16 no column", x.total(column, 9), GONE + Check.UNKNOWN);
        }
        check.due("16 what -1", x.total(0, -1), GONE + Check.OUTSIDE);
        check.due("16 what 5", x.total(0, 5), GONE + Check.OUTSIDE);
        check.due("16 a fault", x.total(0, 0), GONE + Check.NO);
        check.due("16 a fault", x.total(3, 4), GONE + Check.NO);
        x.add(0, 1, -999, M, 7);
        x.add(2, 2, -999, M, 7);
        x.add(4, 3, 999, 5, 7);
        x.add(4, 1, 998, M, -7);
        check.ask(x, "<a3");
        totalsAre(x, 0, new int[] {1, 2, 4, 0, 2});
        totalsAre(x, 1, new int[] {-999, 998, -1000, 0, 2});
        totalsAre(x, 2, new int[] {NONE, NONE, 0, 3, 2});
        totalsAre(x, 3, new int[] {-7, 7, 7, 0, 2});
        check.ask(x, "=a9");
        totalsAre(x, 0, new int[] {NONE, NONE, 0, 0, 0});
        check.ask(x, "<01");
        totalsAre(x, 2, new int[] {5, 5, 5, 3, 0});
        totalsOfMany();
    }

    private static void totalsOfMany() {
        BlockTruths x = new BlockTruths();
        for (int i = 0; i < 48; i++) {
            x.add(i / 8, 999, -999, 0, M);
        }
        check.ask(x, "<01");
        totalsAre(x, 0, new int[] {999, 999, 47952, 0, 0});
        totalsAre(x, 1, new int[] {-999, -999, -47952, 0, 0});
        totalsAre(x, 3, new int[] {NONE, NONE, 0, 48, 0});
    }

    private static void totalsAre(BlockTruths x, int column, int[] due) {
        for (int what = 0; what < due.length; what++) {
            check.due("16 total(" + column + ", " + what + ")", x.total(column, what), due[what]);
        }
    }

    private static void promise16RowsToRead() {
        BlockTruths x = new BlockTruths();
        x.add(0, 1, 1, 1, 1);
        x.add(0, 2, 1, 1, 1);
        x.add(0, 3, 1, 1, 1);
        x.add(1, 7, 1, 1, 1);
        x.add(2, 2, 1, 1, 1);
        x.add(2, 7, 1, 1, 1);
        check.ask(x, "<a5");
        check.due("16 scanned alone", x.total(0, 4), 2);
        x.drop(0, 1);
        // taken, and stale in a alone; the scanned one is counted but once
        check.due("16 taken and stale in a", x.total(0, 4), 4);
        check.due("16 taken, not stale in b", x.total(1, 4), 2);
        x.drop(2, 1);
        check.due("16 both taken, both stale in a", x.total(0, 4), 3);
        check.due("16 both taken", x.total(1, 4), 0);
        check.due("16 the least is right", x.total(0, 0), 1);
        check.due("16 the greatest is right", x.total(0, 1), 3);
        x.add(1, 8, 1, 1, 1);
        x.drop(1, 0);
        check.due("16 skipped and stale is not counted", x.total(0, 4), 3);
        x.anew(0);
        check.due("16 one stale yet", x.total(0, 4), 1);
    }

    private static void promise17And18Images() {
        BlockTruths x = new BlockTruths();
        for (int n : new int[] {-1, 2, Integer.MIN_VALUE, Integer.MAX_VALUE}) {
            check.due("17 no image " + n, x.image(n), Check.OUTSIDE);
            check.due("18 no image " + n, x.restore(n), Check.OUTSIDE);
        }
        check.due("18 not kept", x.restore(0), Check.STATE);
        check.due("17 of nothing", x.image(1), 1);
        check.due("18 the other one is not kept", x.restore(0), Check.STATE);
        x.add(0, 1, 2, 3, M);
        x.add(0, 4, 2, 3, M);
        x.add(5, 9, 9, 9, 9);
        x.drop(0, 0);
        check.ask(x, "<a3");
        check.due("17", x.image(0), 1);
        imageIsThere(x, "17");
        x.anew(0);
        x.add(0, 8, 8, 8, 8);
        x.drop(5, 0);
        check.ask(x, "=ab");
        check.due("18", x.restore(0), 1);
        imageIsThere(x, "18");
        check.due("18 the question is the later one", x.answer(4), 32);
        check.due("18 of what is stale again", x.answer(5), 1);
        check.due("18 signs stay", x.told(0), 3);
        x.add(0, 5, 5, 5, 5);
        x.drop(0, 0);
        check.due("18 once more", x.restore(0), 1);
        imageIsThere(x, "18 once more");
        check.due("18 the empty one", x.restore(1), 1);
        check.due("18 no rows", x.told(1), 0);
        check.due("18 nothing came", x.summary(0, 0, 0), NONE);
        check.due("18 the pad stays", x.fault(), NONE);
        check.due("18 back again", x.restore(0), 1);
        imageIsThere(x, "18 back again");
        check.due("17 kept anew", x.image(1), 1);
        x.drop(0, 0);
        check.due("18 the later one", x.restore(1), 1);
        imageIsThere(x, "18 the later one");
    }

    private static void imageIsThere(BlockTruths x, String what) {
        check.due(what + " rows", x.told(1), 2);
        check.due(what + " cell", x.cell(0, 0, 0), 4);
        check.due(what + " cell", x.cell(5, 0, 3), 9);
        check.due(what + " least", x.summary(0, 0, 0), 1);
        check.due(what + " greatest", x.summary(0, 0, 1), 4);
        check.due(what + " missing", x.summary(0, 3, 2), 1);
        check.due(what + " in the list", x.summary(0, 0, 3), 2);
        check.due(what + " stale", x.summary(0, 0, 4), 1);
        check.due(what + " listed", x.listed(0, 0, 0, 0), 1);
        check.due(what + " how many have it", x.listed(0, 0, 0, 1), 0);
        check.due(what + " how many have it", x.listed(0, 0, 1, 1), 1);
    }
}
