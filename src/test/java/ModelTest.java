import java.util.Random;

/** Many runs of at most 512 calls, by seeds that stay the same: each answer is the model's. */
public final class ModelTest {
    private static final int RUNS = 5000;
    /** An object is used for 512 calls at most; the rest of them look at the verdicts, when a run ends. */
    private static final int CALLS = 400;
    private static final Check check = new Check();

    private final Random random;
    private final BlockTruths x = new BlockTruths();
    private final Model m = new Model();
    private final int[] pool;
    private final int oddity;
    private final String name;
    private String rest = "";

    private ModelTest(int seed) {
        random = new Random(seed);
        name = "run " + seed + " ";
        pool = new int[2 + random.nextInt(6)];
        int width = new int[] {3, 12, 140, 300, 999}[random.nextInt(5)];
        for (int i = 0; i < pool.length; i++) {
            pool[i] = random.nextInt(7) == 0 ? 1000 : random.nextInt(2 * width + 1) - width;
        }
        oddity = random.nextBoolean() ? 40 : 8;
    }

    public static void main(String[] args) {
        for (int seed = 0; seed < RUNS && check.wrongAnswers() == 0; seed++) {
            new ModelTest(seed).run();
        }
        check.end("ModelTest");
    }

    private void run() {
        for (int i = 0; i < CALLS && check.wrongAnswers() == 0; i++) {
            if (!rest.isEmpty()) {
                say(rest.charAt(0));
                rest = rest.substring(1);
                i++;
            } else {
                call();
            }
        }
        neverSkippedNeverWrong();
    }

    private void call() {
        int kind = random.nextInt(40);
        if (kind < 8) {
            add();
        } else if (kind < 11) {
            int b = block();
            int r = row();
            check.due(name + "drop(" + b + ", " + r + ")", x.drop(b, r), m.drop(b, r));
        } else if (kind < 12) {
            int b = block();
            check.due(name + "anew(" + b + ")", x.anew(b), m.anew(b));
        } else if (kind < 14) {
            ask();
        } else if (kind < 15) {
            images();
        } else if (kind < 26) {
            lookAtRows(kind);
        } else {
            lookAtBlocks(kind);
        }
    }

    private void add() {
        int b = block();
        int[] v = {value(), value(), value(), value()};
        check.due(name + "add(" + b + ", " + v[0] + ", " + v[1] + ", " + v[2] + ", " + v[3] + ")",
            x.add(b, v[0], v[1], v[2], v[3]), m.add(b, v[0], v[1], v[2], v[3]));
    }

    private void ask() {
        check.due(name + "wipe()", x.wipe(), m.wipe());
        String letters = random.nextBoolean() ? "abcd" : "abcd".substring(random.nextInt(4)).substring(0, 1);
        rest = truthSigns(random.nextInt(5), letters);
        if (rest.length() > 60) {
            rest = truthSigns(1, letters);
        }
        if (random.nextInt(oddity) == 0) {
            int i = random.nextInt(rest.length());
            rest = rest.substring(0, i) + (char) (32 + random.nextInt(96)) + rest.substring(i + random.nextInt(2));
        }
    }

    private void say(int sign) {
        check.due(name + "say(" + sign + ")", x.say(sign), m.say(sign));
        check.due(name + "fault()", x.fault(), m.fault());
    }

    private void images() {
        int n = edgeOr(random.nextInt(2), 2);
        if (random.nextBoolean()) {
            check.due(name + "image(" + n + ")", x.image(n), m.image(n));
        } else {
            check.due(name + "restore(" + n + ")", x.restore(n), m.restore(n));
        }
    }

    private void lookAtRows(int kind) {
        int b = block();
        int c = edgeOr(random.nextInt(4), 4);
        int r = row();
        if (kind < 17) {
            check.due(name + "cell(" + b + ", " + r + ", " + c + ")", x.cell(b, r, c), m.cell(b, r, c));
        } else if (kind < 21) {
            int what = edgeOr(random.nextInt(5), 5);
            check.due(name + "summary(" + b + ", " + c + ", " + what + ")", x.summary(b, c, what), m.summary(b, c, what));
        } else if (kind < 24) {
            int i = edgeOr(random.nextInt(5), 4);
            int what = edgeOr(random.nextInt(2), 2);
            check.due(name + "listed(" + b + ", " + c + ", " + i + ", " + what + ")",
                x.listed(b, c, i, what), m.listed(b, c, i, what));
        } else {
            int what = random.nextInt(30) - 2;
            check.due(name + "told(" + what + ")", x.told(what), m.told(what));
        }
    }

    private void lookAtBlocks(int kind) {
        int b = block();
        int place = edgeOr(random.nextInt(Math.max(1, m.told(0))), m.told(0));
        if (kind < 28) {
            int r = row();
            check.due(name + "truth(" + b + ", " + r + ")", x.truth(b, r), m.truth(b, r));
        } else if (kind < 31) {
            int what = edgeOr(random.nextInt(3), 3);
            check.due(name + "range(" + b + ", " + place + ", " + what + ")", x.range(b, place, what), m.range(b, place, what));
        } else if (kind < 34) {
            check.due(name + "may(" + b + ", " + place + ")", x.may(b, place), m.may(b, place));
        } else if (kind < 36) {
            int what = edgeOr(random.nextInt(2), 2);
            check.due(name + "verdict(" + b + ", " + what + ")", x.verdict(b, what), m.verdict(b, what));
        } else if (kind < 38) {
            int what = edgeOr(random.nextInt(6), 6);
            check.due(name + "answer(" + what + ")", x.answer(what), m.answer(what));
        } else {
            int c = edgeOr(random.nextInt(4), 4);
            int what = edgeOr(random.nextInt(5), 5);
            check.due(name + "total(" + c + ", " + what + ")", x.total(c, what), m.total(c, what));
        }
    }

    /** What the document's first lines say of SKIPPED and TAKEN blocks. */
    private void neverSkippedNeverWrong() {
        for (int b = 0; b < 6; b++) {
            int verdict = x.verdict(b, 0);
            int may = x.verdict(b, 1);
            int byRanges = x.may(b, 0);
            for (int r = 0; r < m.told(10 + b) && verdict >= 0; r++) {
                int truth = x.truth(b, r);
                int bit = new int[] {2, 1, 4}[truth];
                check.holds(name + "a match is never skipped", truth != 1 || verdict != 0);
                check.holds(name + "what is taken is a match", truth == 1 || verdict != 1);
                check.holds(name + "what is, may be", (may & bit) != 0 && (byRanges & bit) != 0);
                check.holds(name + "ranges are no narrower than the list", (may & ~byRanges) == 0);
            }
        }
    }

    private int block() {
        return edgeOr(random.nextInt(3) == 0 ? random.nextInt(6) : 2, 6);
    }

    private int row() {
        return edgeOr(random.nextInt(1 + random.nextInt(8)), 8);
    }

    private int value() {
        if (random.nextInt(8 * oddity) == 0) {
            return new int[] {-1000, -999, 999, 1000, 1001, Integer.MIN_VALUE, Integer.MAX_VALUE}[random.nextInt(7)];
        }
        return random.nextInt(10) == 0 ? 1000 : pool[random.nextInt(pool.length)];
    }

    private int edgeOr(int usual, int bound) {
        if (random.nextInt(3 * oddity) != 0) {
            return usual;
        }
        return new int[] {-1, bound, bound + 1, bound - 1, Integer.MIN_VALUE, Integer.MAX_VALUE}[random.nextInt(6)];
    }

    private String truthSigns(int depth, String letters) {
        int kind = random.nextInt(depth > 0 ? 7 : 4);
        if (kind == 0) {
            return "m" + letter(letters);
        }
        if (kind < 4) {
            return (random.nextBoolean() ? "<" : "=") + termSigns(depth, letters) + termSigns(depth, letters);
        }
        if (kind == 4) {
            return "!" + truthSigns(depth - 1, letters);
        }
        return (kind == 5 ? "&" : "|") + truthSigns(depth - 1, letters) + truthSigns(depth - 1, letters);
    }

    private String termSigns(int depth, String letters) {
        int kind = random.nextInt(depth > 0 ? 12 : 5);
        if (kind < 3) {
            return letter(letters);
        }
        if (kind == 3) {
            return "" + random.nextInt(10);
        }
        if (kind == 4) {
            return "#" + (100 + random.nextInt(900));
        }
        if (kind < 7) {
            return (kind == 5 ? "~" : "y") + termSigns(depth - 1, letters);
        }
        if (kind < 9) {
            return "%" + termSigns(depth - 1, letters) + (1 + random.nextInt(9));
        }
        return "+-*".charAt(kind - 9) + termSigns(depth - 1, letters) + termSigns(depth - 1, letters);
    }

    private String letter(String letters) {
        return "" + letters.charAt(random.nextInt(letters.length()));
    }
}
