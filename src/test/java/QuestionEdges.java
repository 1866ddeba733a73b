/** Part 2 of the Terms and promises 8 to 11, at their edges: each sentence has a test of its own. */
final class QuestionEdges {
    private static final int M = Check.MISSING, NONE = Check.NONE;
    private static final int UNKNOWN = Check.UNKNOWN, OUTSIDE = Check.OUTSIDE, FULL = Check.FULL, NO = Check.NO;
    private static final String FIGURES = "0123456789";
    private static final String TRUTHS = "<=&|!m";
    private static final String TERMS = "abcd" + FIGURES + "#~+-*%y";
    /** Of the row that the tests of numbers ask: a is 100, so this is 1000000. */
    private static final String MILLION = "**aaa";
    private static final int[] ROW = {100, 1, 999, M};

    private final Check check;

    QuestionEdges(Check check) {
        this.check = check;
    }

    void all() {
        sixtySigns();
        codesOfSigns();
        signsOfATruth();
        signsOfATerm();
        signsOfALetterAFigureADivisor();
        formsOfTruths();
        formsOfTerms();
        truthsInTruths();
        termsInTerms();
        faultAtTheFirstSign();
        faultBehindTheEnd();
        faultBecauseMoreMustCome();
        theFirstFaultIsTold();
        otherSideOfZero();
        leftOver();
        bytes();
        bytesOfWhatIsCut();
        sumsAreCut();
        differencesAreCut();
        productsAreCut();
        eachIsCutByItself();
        missingTerms();
        lessAndLike();
        notOf();
        bothOf();
        eitherOf();
        missingIsNeverUnknown();
        aMatch();
        sayTellsHowMany();
        wipeTellsHowMany();
        faultTells();
        truthTells();
    }

    private static BlockTruths asked(String signs) {
        BlockTruths x = new BlockTruths();
        for (char sign : signs.replace(" ", "").toCharArray()) {
            x.say(sign);
        }
        return x;
    }

    private void faultIs(String signs, int due) {
        check.due("fault of " + signs, asked(signs).fault(), due);
    }

    private void truthIs(int[] row, String signs, int due) {
        BlockTruths x = asked(signs);
        check.due("fault of " + signs, x.fault(), NONE);
        x.add(5, row[0], row[1], row[2], row[3]);
        check.due("truth of " + signs, x.truth(5, 0), due);
    }

    /** Both of what it is and of what it is not: a wrong number can not be taken for the due one. */
    private void numberIs(int[] row, String term, int due) {
        String told = threeFigures(due);
        truthIs(row, "=" + term + told, 1);
        truthIs(row, "<" + term + told, 0);
        truthIs(row, "<" + told + term, 0);
    }

    private static String threeFigures(int n) {
        String figures = String.valueOf(1000 + Math.abs(n)).substring(1);
        return (n < 0 ? "~#" : "#") + figures;
    }

    private void sixtySigns() {
        check.sentence("A QUESTION is told on a PAD of up to 60 signs");
        BlockTruths x = new BlockTruths();
        check.due("without a sign", x.told(0), 0);
        check.due("without a sign, the fault", x.fault(), 0);
        for (int n = 1; n <= 60; n++) {
            check.due("sign " + n, x.say(n < 59 ? '!' : n == 59 ? 'm' : 'a'), n);
        }
        check.due("one more", x.say('!'), FULL);
        check.due("sixty", x.told(0), 60);
        check.due("a question of sixty signs has no fault", x.fault(), NONE);
        x.add(0, M, 0, 0, 0);
        check.due("it is true", x.truth(0, 0), 1);
        check.due("its last truth", x.may(0, 58), 1);
        check.due("its last sign", x.may(0, 59), Check.STATE);
        check.due("behind its last sign", x.may(0, 60), OUTSIDE);
        BlockTruths y = asked("<a" + "~".repeat(57) + "b");
        y.add(0, -5, 4, 0, 0);
        check.due("a term of 58 signs", y.truth(0, 0), 1);
        check.rangeIs("the last term", y, 0, 59, 1, 4, 4);
        check.rangeIs("the longest one", y, 0, 2, 1, -4, -4);
        check.due("behind the last one", y.range(0, 60, 0), Check.GONE + OUTSIDE);
    }

    private void codesOfSigns() {
        check.sentence("(codes 33 to 126)");
        for (int sign : new int[] {33, 34, 125, 126}) {
            check.due("sign " + sign, new BlockTruths().say(sign), 1);
        }
        for (int sign : new int[] {32, 127, 0, -1, 31, 128, 33 + 256, 33 + 65536, Integer.MIN_VALUE, Integer.MAX_VALUE}) {
            BlockTruths x = new BlockTruths();
            check.due("no sign " + sign, x.say(sign), OUTSIDE);
            check.due("it did not come", x.told(0), 0);
        }
        for (int sign = 33; sign <= 126; sign++) {
            check.due("sign " + sign, new BlockTruths().say(sign), 1);
        }
    }

    /** Each sign behind a beginning: those that can stand there make it whole or not; any other is the FAULT. */
    private void signsBehind(String beginning, String canStand, String makesWhole) {
        for (char sign = 33; sign <= 126; sign++) {
            int due = beginning.length();
            if (canStand.indexOf(sign) >= 0) {
                due = makesWhole.indexOf(sign) >= 0 ? NONE : due + 1;
            }
            faultIs(beginning + sign, due);
        }
    }

    private void signsOfATruth() {
        check.sentence("A TRUTH is: < and two TERMS (LESS), = and two TERMS (LIKE), & and two TRUTHS (BOTH), | and two TRUTHS (EITHER), ! and a TRUTH (NOT), or m and a COLUMN's letter (MISSING).");
        for (String beginning : new String[] {"", "!", "&", "|", "&ma", "|mb", "!!", "&<ab", "|=%a1b", "!&ma"}) {
            signsBehind(beginning, TRUTHS, "");
        }
        for (String whole : new String[] {"ma", "<ab", "=#123%d4", "&mamb", "|<ab=cd", "!md"}) {
            signsBehind(whole, "", "");
        }
    }

    private void signsOfATerm() {
        check.sentence("A TERM is: a COLUMN's letter; a figure 0 to 9; # and three figures; ~ and a TERM (the other side of 0); +, -, or * and two TERMS; % and a TERM and a figure 1 to 9 (what is left over, less than 0 if the TERM is); or y and a TERM");
        String[] first = {"<", "=", "<~", "<y", "<+", "<-", "<*", "<%", "<+a", "=-b", "=*c", "&ma<", "<a~+"};
        for (String beginning : first) {
            signsBehind(beginning, TERMS, "");
        }
        for (String beginning : new String[] {"<a", "=#000", "<%a1", "=0~", "<0y", "=+abc", "<a+b", "!=a-b", "=a*~d", "&ma<b"}) {
            boolean needsOne = !beginning.equals("=+abc");
            signsBehind(beginning, needsOne ? TERMS : "", needsOne ? "abcd" + FIGURES : "");
        }
    }

    private void signsOfALetterAFigureADivisor() {
        check.sentence("m and a COLUMN's letter");
        signsBehind("m", "abcd", "abcd");
        signsBehind("!m", "abcd", "abcd");
        signsBehind("&m", "abcd", "");
        check.sentence("# and three figures");
        signsBehind("<#", FIGURES, "");
        signsBehind("<#0", FIGURES, "");
        signsBehind("<#00", FIGURES, "");
        signsBehind("<a#", FIGURES, "");
        signsBehind("<a#9", FIGURES, "");
        signsBehind("<a#99", FIGURES, FIGURES);
        check.sentence("% and a TERM and a figure 1 to 9");
        signsBehind("<%a", "123456789", "");
        signsBehind("<a%a", "123456789", "123456789");
        signsBehind("<a%0", "123456789", "123456789");
        signsBehind("<a%#000", "123456789", "123456789");
        signsBehind("<a%+bc", "123456789", "123456789");
        signsBehind("<a%%b9", "123456789", "123456789");
    }

    private void formsOfTruths() {
        check.sentence("A QUESTION is told on a PAD of up to 60 signs (codes 33 to 126): a TRUTH.");
        for (String term : new String[] {"a", "0", "#123", "~a", "+ab", "-ab", "*ab", "%a1", "ya"}) {
            faultIs(term, 0);
        }
        for (String truth : new String[] {"<ab", "=ab", "&mamb", "|mamb", "!ma", "ma"}) {
            faultIs(truth, NONE);
            faultIs("<" + truth + "b", 1);
            faultIs("!" + truth, NONE);
            faultIs("&" + truth + truth, NONE);
            faultIs("|" + truth + "a", truth.length() + 1);
        }
    }

    private void formsOfTerms() {
        check.sentence("a COLUMN's letter; a figure 0 to 9; # and three figures");
        int[] row = {-999, 999, 0, -1};
        numberIs(row, "a", -999);
        numberIs(row, "b", 999);
        numberIs(row, "c", 0);
        numberIs(row, "d", -1);
        for (int n = 0; n <= 9; n++) {
            numberIs(row, "" + n, n);
        }
        for (int n : new int[] {0, 1, 10, 100, 123, 909, 990, 999}) {
            numberIs(row, threeFigures(n), n);
        }
    }

    /** Each kind of TRUTH as the first and as the second part of another. */
    private void truthsInTruths() {
        check.sentence("& and two TRUTHS (BOTH), | and two TRUTHS (EITHER), ! and a TRUTH (NOT)");
        String[] isTrue = {"<01", "=11", "&<01md", "|<10md", "|md<10", "!ma", "md", "!&<10md"};
        String[] isFalse = {"<10", "=12", "&<10md", "&md<10", "|ma<10", "!md", "ma", "!|<10md"};
        for (int i = 0; i < isTrue.length; i++) {
            for (int j = 0; j < isFalse.length; j++) {
                truthIs(ROW, "&" + isTrue[i] + isFalse[j], 0);
                truthIs(ROW, "&" + isFalse[j] + isTrue[i], 0);
                truthIs(ROW, "|" + isTrue[i] + isFalse[j], 1);
                truthIs(ROW, "|" + isFalse[j] + isTrue[i], 1);
                truthIs(ROW, "&" + isTrue[i] + isTrue[j], 1);
                truthIs(ROW, "|" + isFalse[i] + isFalse[j], 0);
                truthIs(ROW, "|&" + isTrue[i] + isFalse[j] + isTrue[j], 1);
                truthIs(ROW, "&|" + isTrue[i] + isFalse[j] + isFalse[i], 0);
            }
            truthIs(ROW, "!" + isTrue[i], 0);
            truthIs(ROW, "!" + isFalse[i], 1);
        }
    }

    /** Each kind of TERM as the first and as the second part of another. */
    private void termsInTerms() {
        check.sentence("+, -, or * and two TERMS; % and a TERM and a figure 1 to 9");
        String[] terms = {"a", "7", "#123", "~c", "+bc", "-bc", "*3c", "%c7", "yc", "~%-ca4", "y*c+b2", "%+~cy#1307"};
        int[] values = {100, 7, 123, -999, 1000, -998, 2997, 5, -25, -3, -75, -5};
        for (int i = 0; i < terms.length; i++) {
            truthIs(ROW, "=" + terms[i] + told(values[i]), 1);
            truthIs(ROW, "=~" + terms[i] + told(-values[i]), 1);
            truthIs(ROW, "=%" + terms[i] + "9" + told(values[i] % 9), 1);
            for (int j = 0; j < terms.length; j++) {
                truthIs(ROW, "=+" + terms[i] + terms[j] + told(values[i] + values[j]), 1);
                truthIs(ROW, "=-" + terms[i] + terms[j] + told(values[i] - values[j]), 1);
                truthIs(ROW, "=-" + told(values[i] - values[j]) + "-" + terms[i] + terms[j] + "0", 1);
                truthIs(ROW, "<" + terms[i] + terms[j], values[i] < values[j] ? 1 : 0);
                int product = (int) Math.max(-1000000, Math.min(1000000, (long) values[i] * values[j]));
                truthIs(ROW, "=*" + terms[i] + terms[j] + told(product), 1);
            }
        }
    }

    /** A number of up to six figures by signs that tell three at a time; 1000000 is told as 999999 and 1. */
    private static String told(int n) {
        int size = Math.min(Math.abs(n), 999999);
        String signs = threeFigures(size % 1000);
        if (size >= 1000) {
            signs = "+*" + threeFigures(size / 1000) + "+#9991" + signs;
        }
        if (Math.abs(n) == 1000000) {
            signs = "+1" + signs;
        }
        return n < 0 ? "~" + signs : signs;
    }

    private void faultAtTheFirstSign() {
        check.sentence("THE FAULT: the place (from 0 on) of the first sign that can not stand there");
        faultIs("z", 0);
        faultIs("a", 0);
        faultIs("~", 0);
        faultIs("z<ab", 0);
        faultIs("z" + "!".repeat(59), 0);
        faultIs("<z", 1);
        faultIs("<az", 2);
        faultIs("!".repeat(59) + "a", 59);
        faultIs("!".repeat(58) + "m0", 59);
        faultIs("<" + "+".repeat(58) + "m", 59);
    }

    private void faultBehindTheEnd() {
        check.sentence("(also behind the end)");
        for (char sign = 33; sign <= 126; sign++) {
            faultIs("<ab" + sign, 3);
        }
        faultIs("ma<ab", 2);
        faultIs("<a33", 3);
        faultIs("!".repeat(57) + "maa", 59);
        faultIs("<ab" + "a".repeat(57), 3);
    }

    private void faultBecauseMoreMustCome() {
        check.sentence("or the number of signs, if more must come.");
        String[] whole = {"<ab", "=#1230", "&!ma|mb<cd", "=%-a#1239~%yd1", "|m" + "a" + "<*++abc" + "d0"};
        for (String signs : whole) {
            for (int n = 0; n < signs.length(); n++) {
                faultIs(signs.substring(0, n), n);
            }
            faultIs(signs, NONE);
        }
        for (String sign : new String[] {"!", "&", "|"}) {
            faultIs(sign.repeat(60), 60);
        }
        for (String sign : new String[] {"+", "-", "*", "%", "~", "y"}) {
            faultIs("=" + sign.repeat(59), 60);
        }
        faultIs("=" + "+".repeat(58) + "#", 60);
    }

    private void theFirstFaultIsTold() {
        check.sentence("the first sign that can not stand there");
        BlockTruths x = asked("<z");
        check.due("the first", x.fault(), 1);
        for (int n = 0; n < 58; n++) {
            x.say(n % 2 == 0 ? 'a' : 'z');
            check.due("the first still", x.fault(), 1);
        }
        x.wipe();
        check.due("wiped", x.fault(), 0);
        check.ask(x, "<ab");
        check.due("none", x.fault(), NONE);
        x.say('b');
        check.due("one behind the end", x.fault(), 3);
        x.say('b');
        check.due("the first behind the end", x.fault(), 3);
    }

    private void otherSideOfZero() {
        check.sentence("~ and a TERM (the other side of 0)");
        int[] row = {-999, 999, 0, -1};
        numberIs(row, "~a", 999);
        numberIs(row, "~b", -999);
        numberIs(row, "~c", 0);
        numberIs(row, "~~d", -1);
        numberIs(row, "~0", 0);
        truthIs(ROW, "=~" + MILLION + "-~" + MILLION + "b", 1);
        truthIs(ROW, "=~~" + MILLION + MILLION, 1);
        truthIs(ROW, "<~" + MILLION + "-b" + MILLION, 1);
    }

    private void leftOver() {
        check.sentence("(what is left over, less than 0 if the TERM is)");
        int[] values = {-999, -998, -19, -10, -9, -8, -2, -1, 0, 1, 2, 8, 9, 10, 19, 998, 999};
        for (int n = 1; n <= 9; n++) {
            for (int value : values) {
                int size = Math.abs(value) - Math.abs(value) / n * n;
                numberIs(new int[] {value, 0, 0, 0}, "%a" + n, value < 0 ? -size : size);
            }
        }
        numberIs(new int[] {-7, 0, 0, 0}, "%a5", -2);
        numberIs(new int[] {7, 0, 0, 0}, "%a5", 2);
        numberIs(ROW, "%" + MILLION + "7", 1);
        numberIs(ROW, "%~" + MILLION + "7", -1);
    }

    private void bytes() {
        check.sentence("(its BYTE: of -128 to 127 that which differs from it by some times 256)");
        int[][] due = {{-128, -128}, {127, 127}, {0, 0}, {-1, -1}, {1, 1}, {128, -128}, {-129, 127}, {129, -127}, {-130, 126},
            {255, -1}, {256, 0}, {257, 1}, {-255, 1}, {-256, 0}, {-257, -1}, {383, 127}, {384, -128}, {-384, -128},
            {-385, 127}, {640, -128}, {639, 127}, {895, 127}, {896, -128}, {-896, -128}, {-897, 127}, {999, -25}, {-999, 25}};
        for (int[] pair : due) {
            numberIs(new int[] {0, pair[0], 0, 0}, "yb", pair[1]);
            numberIs(new int[] {0, pair[0], 0, 0}, "yyb", pair[1]);
        }
    }

    private void bytesOfWhatIsCut() {
        check.sentence("its BYTE: of -128 to 127");
        numberIs(ROW, "y" + MILLION, 64);
        numberIs(ROW, "y~" + MILLION, -64);
        numberIs(ROW, "y-" + MILLION + "b", 63);
        // 999 times 999 is 998001, and 3898 times 256 is 997888
        numberIs(ROW, "y*cc", 113);
        numberIs(ROW, "y**ccc", 64);
    }

    private void sumsAreCut() {
        check.sentence("All that is made by +, -, * is cut to -1000000 to 1000000.");
        truthIs(ROW, "= +" + MILLION + "0" + MILLION, 1);
        truthIs(ROW, "= +" + MILLION + "b" + MILLION, 1);
        truthIs(ROW, "= +b" + MILLION + MILLION, 1);
        truthIs(ROW, "= +" + MILLION + MILLION + MILLION, 1);
        truthIs(ROW, "= + -" + MILLION + "b b" + MILLION, 1);
        truthIs(ROW, "= + -" + MILLION + "b 2" + MILLION, 1);
        truthIs(ROW, "< + -" + MILLION + "2 b" + MILLION, 1);
        truthIs(ROW, "= + ~" + MILLION + "~b ~" + MILLION, 1);
        truthIs(ROW, "= + ~" + MILLION + "~" + MILLION + "~" + MILLION, 1);
        truthIs(ROW, "< ~" + MILLION + "+ ~" + MILLION + "b", 1);
        truthIs(ROW, "= + ~" + MILLION + MILLION + "0", 1);
    }

    private void differencesAreCut() {
        check.sentence("All that is made by +, -, * is cut");
        truthIs(ROW, "= - ~" + MILLION + "0 ~" + MILLION, 1);
        truthIs(ROW, "= - ~" + MILLION + "b ~" + MILLION, 1);
        truthIs(ROW, "= - ~" + MILLION + MILLION + "~" + MILLION, 1);
        truthIs(ROW, "= -" + MILLION + "~b" + MILLION, 1);
        truthIs(ROW, "= -" + MILLION + "~" + MILLION + MILLION, 1);
        truthIs(ROW, "< -" + MILLION + "b" + MILLION, 1);
        truthIs(ROW, "< ~" + MILLION + "- ~" + MILLION + "~b", 1);
        truthIs(ROW, "= -" + MILLION + MILLION + "0", 1);
        truthIs(ROW, "= -0" + MILLION + "~" + MILLION, 1);
        // 999999 less 1000001, which is cut to 1000000 first
        truthIs(ROW, "= - -" + MILLION + "b +" + MILLION + "b ~b", 1);
    }

    private void productsAreCut() {
        check.sentence("-1000000 to 1000000");
        String thousand = "+cb";
        truthIs(ROW, "= *" + thousand + thousand + MILLION, 1);
        truthIs(ROW, "= *" + thousand + "+" + thousand + "b" + MILLION, 1);
        truthIs(ROW, "< *" + thousand + "c" + MILLION, 1);
        truthIs(ROW, "= - *" + thousand + "c *" + thousand + "#998" + thousand, 1);
        truthIs(ROW, "= *" + thousand + "~" + thousand + "~" + MILLION, 1);
        truthIs(ROW, "= *" + thousand + "~+" + thousand + "b ~" + MILLION, 1);
        truthIs(ROW, "< ~" + MILLION + "*" + thousand + "~c", 1);
        truthIs(ROW, "= *" + MILLION + MILLION + MILLION, 1);
        truthIs(ROW, "= *" + MILLION + "~" + MILLION + "~" + MILLION, 1);
        truthIs(ROW, "= * ~" + MILLION + "~" + MILLION + MILLION, 1);
        truthIs(ROW, "= *" + MILLION + "0 0", 1);
        truthIs(ROW, "= *" + MILLION + "~b ~" + MILLION, 1);
        // 5000 times a million is 705032704 if it wraps around at 32 bits, and is cut all the same
        truthIs(ROW, "= * *5" + thousand + MILLION + MILLION, 1);
        // 3000 times a million wraps around to less than 0
        truthIs(ROW, "= * *3" + thousand + MILLION + MILLION, 1);
        truthIs(ROW, "= * ~*3" + thousand + MILLION + "~" + MILLION, 1);
    }

    private void eachIsCutByItself() {
        check.sentence("All that is made");
        truthIs(ROW, "= - +" + MILLION + "2 2 -" + MILLION + "2", 1);
        truthIs(ROW, "= + - ~" + MILLION + "2 2 + ~" + MILLION + "2", 1);
        truthIs(ROW, "= + *" + MILLION + "9 ~" + MILLION + "0", 1);
        truthIs(ROW, "= % *" + MILLION + "7 7 b", 1);
        truthIs(ROW, "= y +" + MILLION + "b #064", 1);
    }

    private void missingTerms() {
        check.sentence("Of a ROW a TERM is MISSING, if any COLUMN in it is");
        String[] terms = {"d", "~d", "yd", "%d1", "%d9", "+da", "+ad", "-da", "-ad", "-dd", "*d0", "*0d", "+a+b+c~d", "+++dabc",
            "~y%*d0 9", "*-dd0"};
        for (String term : terms) {
            truthIs(ROW, "=" + term + "0", 2);
            truthIs(ROW, "=0" + term, 2);
            truthIs(ROW, "<" + term + "0", 2);
            truthIs(ROW, "<0" + term, 2);
            truthIs(new int[] {100, 1, 999, 999}, "|=" + term + "0!=" + term + "0", 1);
        }
        // one TERM is missing, the other is not, and 1000 as a number is not missing
        truthIs(ROW, "& <ab <bd", 0);
        truthIs(ROW, "= +cb *9#111", 0);
        truthIs(ROW, "= +cb +c1", 1);
        for (int c = 0; c < 4; c++) {
            int[] row = {1, 1, 1, 1};
            row[c] = M;
            for (int other = 0; other < 4; other++) {
                truthIs(row, "=" + "abcd".charAt(other) + "1", other == c ? 2 : 1);
            }
        }
    }

    private void lessAndLike() {
        check.sentence("LESS, LIKE are UNKNOWN, if a TERM is MISSING, else TRUE or FALSE");
        int[] row = {-1, 0, 1, M};
        truthIs(row, "<ab", 1);
        truthIs(row, "<ba", 0);
        truthIs(row, "<bb", 0);
        truthIs(row, "=bb", 1);
        truthIs(row, "=ab", 0);
        truthIs(row, "=ac", 0);
        truthIs(row, "<ac", 1);
        for (String signs : new String[] {"<ad", "<da", "<dd", "=ad", "=da", "=dd"}) {
            truthIs(row, signs, 2);
        }
        truthIs(new int[] {-999, 999, 0, 0}, "<ab", 1);
        truthIs(new int[] {-999, 999, 0, 0}, "<ba", 0);
    }

    /** FALSE, TRUE and UNKNOWN, in this order, of a row with nothing but numbers but in d. */
    private static final String[] TOLD = {"<10", "<01", "<d0"};

    private void notOf() {
        check.sentence("NOT of UNKNOWN is UNKNOWN");
        truthIs(ROW, "!" + TOLD[2], 2);
        truthIs(ROW, "!!" + TOLD[2], 2);
        truthIs(ROW, "!" + TOLD[0], 1);
        truthIs(ROW, "!" + TOLD[1], 0);
        truthIs(ROW, "!!" + TOLD[0], 0);
    }

    private void bothOf() {
        check.sentence("BOTH is FALSE, if one is FALSE, else UNKNOWN, if one is UNKNOWN, else TRUE");
        int[][] due = {{0, 0, 0}, {0, 1, 2}, {0, 2, 2}};
        for (int i = 0; i < 3; i++) {
            for (int j = 0; j < 3; j++) {
                truthIs(ROW, "&" + TOLD[i] + TOLD[j], due[i][j]);
            }
        }
    }

    private void eitherOf() {
        check.sentence("EITHER is TRUE, if one is TRUE, else UNKNOWN, if one is UNKNOWN, else FALSE");
        int[][] due = {{0, 1, 2}, {1, 1, 1}, {2, 1, 2}};
        for (int i = 0; i < 3; i++) {
            for (int j = 0; j < 3; j++) {
                truthIs(ROW, "|" + TOLD[i] + TOLD[j], due[i][j]);
            }
        }
    }

    private void missingIsNeverUnknown() {
        check.sentence("MISSING is TRUE, or FALSE.");
        for (int c = 0; c < 4; c++) {
            int[] row = {0, -999, 999, 1};
            truthIs(row, "m" + "abcd".charAt(c), 0);
            truthIs(row, "!m" + "abcd".charAt(c), 1);
            row[c] = M;
            for (int other = 0; other < 4; other++) {
                truthIs(row, "m" + "abcd".charAt(other), other == c ? 1 : 0);
                truthIs(row, "!m" + "abcd".charAt(other), other == c ? 0 : 1);
            }
        }
    }

    private void aMatch() {
        check.sentence("A ROW of which the QUESTION is TRUE is a MATCH.");
        for (int i = 0; i < 3; i++) {
            BlockTruths x = asked(TOLD[i]);
            x.add(3, 1, 1, 1, M);
            check.due("matches of " + TOLD[i], x.answer(0), i == 1 ? 1 : 0);
        }
    }

    private void sayTellsHowMany() {
        check.sentence("A sign more: how many. OUTSIDE; FULL.");
        BlockTruths x = new BlockTruths();
        for (int n = 1; n <= 60; n++) {
            check.due("before sign " + n, x.say(127), OUTSIDE);
            check.due("sign " + n, x.say(32 + n), n);
        }
        check.due("a sixty-first", x.say(33), FULL);
        check.due("a sixty-first once more", x.say(126), FULL);
        check.due("32", x.say(32), OUTSIDE);
        check.due("127", x.say(127), OUTSIDE);
        check.due("as many", x.told(0), 60);
    }

    private void wipeTellsHowMany() {
        check.sentence("Signs go: how many there were.");
        BlockTruths x = new BlockTruths();
        check.due("none", x.wipe(), 0);
        x.say('!');
        check.due("one", x.wipe(), 1);
        check.due("none any more", x.wipe(), 0);
        for (int n = 0; n < 60; n++) {
            x.say('!');
        }
        check.due("sixty", x.wipe(), 60);
        check.due("there is room", x.say('m'), 1);
        check.due("nothing is left of what was told", x.fault(), 1);
        check.due("it goes on", x.say('a'), 2);
        check.due("it is whole", x.fault(), NONE);
        x.add(0, M, 1, 1, 1);
        check.due("it is what was told last", x.truth(0, 0), 1);
        check.due("two", x.wipe(), 2);
        check.due("rows stay", x.told(1), 1);
    }

    private void faultTells() {
        check.sentence("THE FAULT; NONE.");
        faultIs("", 0);
        faultIs("m", 1);
        faultIs("ma", NONE);
        faultIs("maa", 2);
        BlockTruths x = asked("ma");
        check.due("asked once", x.fault(), NONE);
        check.due("asked twice", x.fault(), NONE);
    }

    private void truthTells() {
        check.sentence("Of a ROW: 0 FALSE, 1 TRUE, 2 UNKNOWN. UNKNOWN (-1): both; NO: there is a FAULT.");
        BlockTruths x = new BlockTruths();
        for (int r = 0; r < 8; r++) {
            x.add(5, r % 3 == 2 ? M : r % 3, 0, 0, 0);
        }
        check.due("no sign", x.truth(5, 0), NO);
        check.ask(x, "=a1");
        for (int r = 0; r < 8; r++) {
            check.due("row " + r, x.truth(5, r), r % 3);
        }
        for (int b : new int[] {-1, 6, Integer.MIN_VALUE, Integer.MAX_VALUE}) {
            check.due("no block " + b, x.truth(b, 0), UNKNOWN);
        }
        for (int r : new int[] {-1, 8, Integer.MIN_VALUE, Integer.MAX_VALUE}) {
            check.due("no row " + r, x.truth(5, r), UNKNOWN);
        }
        check.due("no rows", x.truth(0, 0), UNKNOWN);
        x.say('a');
        check.due("a sign behind the end", x.truth(5, 0), NO);
        check.ask(x, "=a");
        check.due("more must come", x.truth(5, 0), NO);
        check.ask(x, "a");
        check.due("the first sign", x.truth(5, 0), NO);
    }
}
