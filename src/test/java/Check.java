/** What the tests share: it counts the answers that are not as due, and tells a question by its signs. */
final class Check {
    static final int NONE = -2000000, UNKNOWN = -1, OUTSIDE = -2, STATE = -3, FULL = -4, NO = -5;
    static final int GONE = -3000000;
    static final int MISSING = 1000;

    private int answers;
    private int wrong;

    void due(String call, int got, int want) {
        answers++;
        if (got != want) {
            wrong++;
            if (wrong <= 40) {
                System.out.println(call + " answered " + got + ", due is " + want);
            }
        }
    }

    void holds(String what, boolean isSo) {
        due(what, isSo ? 1 : 0, 1);
    }

    int wrongAnswers() {
        return wrong;
    }

    /** Wipes the PAD and says these signs; blanks only make them easier to read. */
    void ask(BlockTruths x, String readable) {
        String signs = readable.replace(" ", "");
        x.wipe();
        for (int i = 0; i < signs.length(); i++) {
            due("say of sign " + i + " of " + signs, x.say(signs.charAt(i)), i + 1);
        }
    }

    void end(String name) {
        System.out.println(name + ": " + answers + " answers, " + wrong + " not as due");
        if (wrong != 0) {
            System.exit(1);
        }
    }
}
