/** Promises 8 to 11: the pad, the fault, and what a question is of a row. */
public final class QuestionsTest {
    private static final Check check = new Check();
    private static final int M = Check.MISSING;

    public static void main(String[] args) {
        promise8Say();
        promise9Wipe();
        promise10Fault();
        promise10Longest();
        promise11Refusals();
        promise11Terms();
        promise11Cut();
        promise11ThreeTruths();
        check.end("QuestionsTest");
    }

    private static void promise8Say() {
        BlockTruths x = new BlockTruths();
        for (int sign : new int[] {32, 127, 0, -1, 128, 65569, Integer.MIN_VALUE, Integer.MAX_VALUE}) {
            check.due("8 sign " + sign, x.say(sign), Check.OUTSIDE);
        }
        for (int i = 0; i < 60; i++) {
            check.due("8 sign " + i, x.say(i % 2 == 0 ? 33 : 126), i + 1);
        }
        check.due("8 full", x.say(33), Check.FULL);
        check.due("8 outside is first", x.say(32), Check.OUTSIDE);
        check.due("8 as many as before", x.told(0), 60);
    }

    private static void promise9Wipe() {
        BlockTruths x = new BlockTruths();
        check.due("9 none", x.wipe(), 0);
        check.ask(x, "<ab");
        check.due("9 three", x.wipe(), 3);
        check.due("9 gone", x.told(0), 0);
        check.due("9 gone", x.wipe(), 0);
        check.due("9 the fault is anew", x.fault(), 0);
        check.ask(x, "zzz");
        check.due("9 a fault", x.fault(), 0);
        check.due("9 three", x.wipe(), 3);
        check.ask(x, "mb");
        check.due("9 no fault", x.fault(), Check.NONE);
        x.add(0, 1, 1, 1, 1);
        x.wipe();
        check.due("9 rows stay", x.told(1), 1);
    }

    private static void promise10Fault() {
        String[] good = {"<a3", "=bc", "ma", "md", "!ma", "&mamb", "|mcmd", "<#000#999", "=~ay~b", "<+ab-cd", "=*ab%c9",
            "<%%a123", "!!!ma", "&|mamb!|mc<01", "=%+a#1239~%d1", "<y*ab%y#5555"};
        for (String signs : good) {
            faultIs(signs, Check.NONE);
            for (int n = 0; n < signs.length(); n++) {
                faultIs(signs.substring(0, n), n);
            }
            faultIs(signs + "a", signs.length());
            faultIs(signs + "&mamb", signs.length());
        }
        faultIs("a", 0);
        faultIs("0", 0);
        faultIs("+ab", 0);
        faultIs("<<ab", 1);
        faultIs("<ma", 1);
        faultIs("<e1", 1);
        faultIs("<A1", 1);
        faultIs("<1`", 2);
        faultIs("&a", 1);
        faultIs("!a", 1);
        faultIs("&ma<1", 5);
        faultIs("&ma1", 3);
        faultIs("m1", 1);
        faultIs("me", 1);
        faultIs("m`", 1);
        faultIs("mm", 1);
        faultIs("<#a", 2);
        faultIs("<#1a", 3);
        faultIs("<#12a", 4);
        faultIs("<#12/", 4);
        faultIs("<#12:", 4);
        faultIs("<#1234", Check.NONE);
        faultIs("=%a0", 3);
        faultIs("=%ab", 3);
        faultIs("=%a#", 3);
        faultIs("=%5", 3);
        faultIs("=%51", 4);
        faultIs("=%#0001", 7);
        faultIs("=a%b/", 4);
        faultIs("=a%b:", 4);
        faultIs("z<ab", 0);
        // the first of two is told
        faultIs("=ee", 1);
        faultIs("=aee", 2);
    }

    /** Sixty signs may nest as deep as they like. */
    private static void promise10Longest() {
        faultIs("!".repeat(58) + "ma", Check.NONE);
        faultIs("!".repeat(59) + "m", 60);
        faultIs("!".repeat(60), 60);
        faultIs("&".repeat(60), 60);
        faultIs("<" + "+".repeat(59), 60);
        faultIs("<" + "%".repeat(59), 60);
        faultIs("<" + "+".repeat(58) + "#", 60);
        faultIs("<" + "+".repeat(28) + "a".repeat(29) + "b", Check.NONE);
        faultIs("<" + "+".repeat(28) + "a".repeat(30) + "b", 59);
        faultIs("<~" + "+".repeat(28) + "a".repeat(30), Check.NONE);
        faultIs("<" + "~".repeat(57) + "ab", Check.NONE);
        BlockTruths x = new BlockTruths();
        x.add(0, 3, 100, M, 1);
        check.ask(x, "<" + "+".repeat(28) + "a".repeat(29) + "b");
        check.due("10 29 times 3 is less than 100", x.truth(0, 0), 1);
        check.ask(x, "=" + "~".repeat(56) + "a~3");
        check.due("10 the other side, 56 times", x.truth(0, 0), 0);
        check.ask(x, "=" + "~".repeat(55) + "a~3");
        check.due("10 the other side, 55 times", x.truth(0, 0), 1);
        check.ask(x, "!".repeat(57) + "ma");
        check.due("10 not, 57 times", x.truth(0, 0), 1);
        check.ask(x, "!".repeat(58) + "ma");
        check.due("10 not, 58 times", x.truth(0, 0), 0);
        check.due("10 not, from the midst on", x.may(0, 29), 1);
        check.due("10 not, from the midst on", x.may(0, 28), 2);
    }

    private static void faultIs(String signs, int due) {
        BlockTruths x = new BlockTruths();
        check.ask(x, signs);
        check.due("10 fault of " + signs, x.fault(), due);
        x.add(0, 1, 1, 1, 1);
        check.due("10 truth of " + signs + " is refused", x.truth(0, 0) == Check.NO ? 1 : 0, due == Check.NONE ? 0 : 1);
    }

    private static void promise11Refusals() {
        BlockTruths x = new BlockTruths();
        x.add(1, 1, 2, 3, 4);
        for (int b : new int[] {-1, 6, Integer.MIN_VALUE, Integer.MAX_VALUE}) {
            check.due("11 no block", x.truth(b, 0), Check.UNKNOWN);
        }
        check.due("11 no row", x.truth(1, 1), Check.UNKNOWN);
        check.due("11 no row", x.truth(1, -1), Check.UNKNOWN);
        check.due("11 no rows", x.truth(0, 0), Check.UNKNOWN);
        check.due("11 a fault", x.truth(1, 0), Check.NO);
        check.ask(x, "<ab");
        check.due("11 no fault", x.truth(1, 0), 1);
        check.due("11 no row still", x.truth(1, 1), Check.UNKNOWN);
        x.say('a');
        check.due("11 a fault behind", x.truth(1, 0), Check.NO);
    }

    private static void promise11Terms() {
        int[] row = {7, -7, 300, M};
        String[] holds = {"= a 7", "= b ~7", "= c #300", "= +aa #014", "= +ab 0", "= -ab #014", "= -ba ~#014",
            "= *ab ~#049", "= ~b a", "= ~~a a", "= %a4 3", "= %b4 ~3", "= %a7 0", "= %b7 0", "= %a1 0", "= %b1 0",
            "= %a9 7", "= %b9 ~7", "= yc #044", "= y~c ~#044", "= y#127 #127", "= y#128 ~#128", "= y#255 ~1",
            "= y#256 0", "= y~#128 ~#128", "= y~#129 #127", "= y*c#100 #048", "= y~*c#100 ~#048", "< b a", "< a c",
            "= +c#001 #301", "= -10 1", "= -3+1*21 0", "= -+123 0", "< -ab #015"};
        for (String signs : holds) {
            truthIs(row, signs, 1);
            truthIs(row, "!" + signs, 0);
        }
        for (String signs : new String[] {"<aa", "<ab", "<ca", "=ab", "=b7", "<-ab#014"}) {
            truthIs(row, signs, 0);
            truthIs(row, "!" + signs, 1);
        }
        // whatever has d in it is missing, also what comes to the same in any case
        for (String signs : new String[] {"=dd", "<d0", "<0d", "=*d00", "=-dd0", "=~d0", "=yd0", "=%d10", "=+ad0", "=+da0"}) {
            truthIs(row, signs, 2);
            truthIs(row, "!" + signs, 2);
        }
        truthIs(row, "md", 1);
        truthIs(row, "ma", 0);
        truthIs(row, "mb", 0);
        truthIs(row, "mc", 0);
        // a TERM may well be the number by which MISSING is told, and another than any cell
        truthIs(row, "= +#999 1 *#100 #010", 1);
        truthIs(row, "< +#999 1 #999", 0);
        truthIs(row, "! = +#999 1 0", 1);
    }

    private static void promise11Cut() {
        int[] row = {999, -999, 1, M};
        String million = "**#100#100#100";
        truthIs(row, "= *aa" + million, 0);
        truthIs(row, "= **aaa" + million, 1);
        truthIs(row, "= ***aaaa" + million, 1);
        truthIs(row, "= +**aa2 1" + million, 1);
        truthIs(row, "= **ab2 ~" + million, 1);
        truthIs(row, "= -**ab2 1 ~" + million, 1);
        // each sum is cut by itself: what is cut first is less afterwards
        truthIs(row, "< -**aa2 1" + million, 1);
        truthIs(row, "< ~" + million + "+ **ab2 1", 1);
        truthIs(row, "= +" + million + "c" + million, 1);
        // a million times a million does not wrap around
        truthIs(row, "= *" + million + million + million, 1);
        truthIs(row, "= *" + million + "~" + million + "~" + million, 1);
        truthIs(row, "= %" + million + "7 1", 1);
        truthIs(row, "= %~" + million + "7 ~1", 1);
        truthIs(row, "= y" + million + "#064", 1);
        truthIs(row, "= y~" + million + "~#064", 1);
    }

    private static void promise11ThreeTruths() {
        int[] row = {1, 2, 3, M};
        String[] told = {"<ba", "<ab", "<ad"};
        int[][] both = {{0, 0, 0}, {0, 1, 2}, {0, 2, 2}};
        int[][] either = {{0, 1, 2}, {1, 1, 1}, {2, 1, 2}};
        int[] not = {1, 0, 2};
        for (int i = 0; i < 3; i++) {
            truthIs(row, told[i], i);
            truthIs(row, "!" + told[i], not[i]);
            for (int j = 0; j < 3; j++) {
                truthIs(row, "&" + told[i] + told[j], both[i][j]);
                truthIs(row, "|" + told[i] + told[j], either[i][j]);
                truthIs(row, "!&" + told[i] + told[j], not[both[i][j]]);
                truthIs(row, "&|" + told[i] + told[j] + told[2], both[either[i][j]][2]);
                truthIs(row, "|" + told[2] + "&" + told[i] + told[j], either[2][both[i][j]]);
            }
        }
    }

    private static void truthIs(int[] row, String signs, int due) {
        BlockTruths x = new BlockTruths();
        x.add(3, 0, 0, 0, 0);
        x.add(3, row[0], row[1], row[2], row[3]);
        check.ask(x, signs);
        check.due("11 truth of " + signs, x.truth(3, 1), due);
    }
}
