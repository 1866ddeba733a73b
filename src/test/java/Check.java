import java.util.ArrayList;
import java.util.List;

/** What the tests share: it counts the answers that are not as due, and tells a question by its signs. */
final class Check {
    static final int NONE = -2000000, UNKNOWN = -1, OUTSIDE = -2, STATE = -3, FULL = -4, NO = -5;
    static final int GONE = -3000000;
    static final int MISSING = 1000;

    private final List<String> sentences = new ArrayList<>();
    private String sentence = "";
    private int answers;
    private int wrong;

    /** The answers that follow are due by these words of the document. */
    void sentence(String words) {
        sentences.add(words);
        sentence = "'" + words + "': ";
    }

    List<String> sentences() {
        return sentences;
    }

    void due(String call, int got, int want) {
        answers++;
        if (got != want) {
            wrong++;
            if (wrong <= 40) {
                System.out.println(sentence + call + " answered " + got + ", due is " + want);
            }
        }
    }

    void holds(String what, boolean isSo) {
        due(what, isSo ? 1 : 0, 1);
    }

    int wrongAnswers() {
        return wrong;
    }

    /** Wipes the PAD and says these signs; blanks only make them easier to read. */
    void ask(BlockTruths x, String readable) {
        String signs = readable.replace(" ", "");
        x.wipe();
        for (int i = 0; i < signs.length(); i++) {
            due("say of sign " + i + " of " + signs, x.say(signs.charAt(i)), i + 1);
        }
    }

    /** LEAST, GREATEST, how many are MISSING, how many are in the LIST, whether it is STALE. */
    void summaryIs(String what, BlockTruths x, int block, int column, int... due) {
        for (int i = 0; i < due.length; i++) {
            due(what + ", summary(" + block + ", " + column + ", " + i + ")", x.summary(block, column, i), due[i]);
        }
    }

    /** The NUMBERS of a LIST and how many ROWS have each, by turns; and that there are no more. */
    void listIs(String what, BlockTruths x, int block, int column, int... due) {
        int size = due.length / 2;
        due(what + ", summary(" + block + ", " + column + ", 3)", x.summary(block, column, 3), size);
        for (int i = 0; i < size; i++) {
            due(what + ", listed number " + i, x.listed(block, column, i, 0), due[2 * i]);
            due(what + ", listed count " + i, x.listed(block, column, i, 1), due[2 * i + 1]);
        }
        due(what + ", no more numbers", x.listed(block, column, size, 0), NONE);
        due(what + ", no more counts", x.listed(block, column, size, 1), NONE);
    }

    void listIsLost(String what, BlockTruths x, int block, int column) {
        due(what + ", summary(" + block + ", " + column + ", 3)", x.summary(block, column, 3), NONE);
        for (int i = 0; i < 4; i++) {
            due(what + ", listed number " + i, x.listed(block, column, i, 0), NONE);
            due(what + ", listed count " + i, x.listed(block, column, i, 1), NONE);
        }
    }

    /** What the TERM at a place may be, its LOW and its HIGH. */
    void rangeIs(String what, BlockTruths x, int block, int place, int... due) {
        for (int i = 0; i < due.length; i++) {
            due(what + ", range(" + block + ", " + place + ", " + i + ")", x.range(block, place, i), due[i]);
        }
    }

    void end(String name) {
        System.out.println(name + ": " + answers + " answers, " + wrong + " not as due");
        if (wrong != 0) {
            System.exit(1);
        }
    }
}
