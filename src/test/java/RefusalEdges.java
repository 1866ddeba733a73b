import java.util.ArrayList;
import java.util.LinkedHashMap;
import java.util.List;
import java.util.Map;
import java.util.function.ToIntFunction;

/** In which order refusals are looked for, and that a call that is refused changes nothing. */
final class RefusalEdges {
    private static final int M = Check.MISSING, GONE = Check.GONE;
    private static final int UNKNOWN = Check.UNKNOWN, OUTSIDE = Check.OUTSIDE, NO = Check.NO, STATE = Check.STATE, FULL = Check.FULL;
    private static final String WHOLE = "|<ab=c%a2";

    private final Check check;

    RefusalEdges(Check check) {
        this.check = check;
    }

    void all() {
        unknownIsFirst();
        outsideIsSecond();
        noIsThird();
        stateIsFourth();
        goneAndTheRefusal();
        changeNothing();
    }

    /** Block 0 is full, block 1 stale, one list is lost, block 5 empty; image 1 was never kept. */
    private static BlockTruths prepared(String signs) {
        BlockTruths x = new BlockTruths();
        x.add(1, 1, 1, 1, 1);
        x.add(4, 2, 2, 2, 2);
        x.image(0);
        for (int r = 0; r < 8; r++) {
            x.add(0, r, r % 4, M, r == 3 ? M : -r);
        }
        x.add(1, 9, 9, M, 9);
        x.add(1, 5, 1, 1, 1);
        x.drop(1, 1);
        for (char sign : signs.toCharArray()) {
            x.say(sign);
        }
        return x;
    }

    private void unknownIsFirst() {
        check.sentence("Calls that are refused answer, the first of these that fits: UNKNOWN -1 (there is no such BLOCK, COLUMN, ROW), OUTSIDE -2 (another number is not as told)");
        BlockTruths x = prepared("z");
        check.due("add", x.add(6, 1001, 0, 0, 0), UNKNOWN);
        check.due("cell", x.cell(6, 9, 9), GONE + UNKNOWN);
        check.due("summary, block", x.summary(6, 0, 9), GONE + UNKNOWN);
        check.due("summary, column", x.summary(0, 4, 9), GONE + UNKNOWN);
        check.due("listed, block", x.listed(6, 0, 9, 9), GONE + UNKNOWN);
        check.due("listed, column", x.listed(0, 4, 9, 9), GONE + UNKNOWN);
        check.due("truth, block", x.truth(6, 0), UNKNOWN);
        check.due("truth, row", x.truth(0, 8), UNKNOWN);
        check.due("truth, no rows", x.truth(5, 0), UNKNOWN);
        check.due("range, place", x.range(6, 99, 0), GONE + UNKNOWN);
        check.due("range, what", x.range(6, 0, 9), GONE + UNKNOWN);
        check.due("range, fault", x.range(6, 0, 0), GONE + UNKNOWN);
        check.due("may, place", x.may(6, 99), UNKNOWN);
        check.due("may, fault", x.may(6, 0), UNKNOWN);
        check.due("verdict, what", x.verdict(6, 9), UNKNOWN);
        check.due("verdict, fault", x.verdict(6, 0), UNKNOWN);
        check.due("total, what", x.total(4, 9), GONE + UNKNOWN);
        check.due("total, fault", x.total(4, 0), GONE + UNKNOWN);
    }

    private void outsideIsSecond() {
        check.sentence("OUTSIDE -2 (another number is not as told), NO -5 (as told)");
        BlockTruths x = prepared("z");
        check.due("add to a full block", x.add(0, 0, 0, 0, 1001), OUTSIDE);
        check.due("range, place, fault", x.range(0, 1, 0), GONE + OUTSIDE);
        check.due("range, what, fault", x.range(0, 0, 3), GONE + OUTSIDE);
        check.due("range, place, no rows", x.range(5, 1, 0), GONE + OUTSIDE);
        check.due("range, what, no rows", x.range(5, 0, 3), GONE + OUTSIDE);
        check.due("may, place, fault", x.may(0, 1), OUTSIDE);
        check.due("may, place, no rows", x.may(5, 1), OUTSIDE);
        check.due("verdict, what, fault", x.verdict(0, 2), OUTSIDE);
        check.due("answer, what, fault", x.answer(6), OUTSIDE);
        check.due("total, what, fault", x.total(0, 5), GONE + OUTSIDE);
        check.due("restore", x.restore(2), OUTSIDE);
        BlockTruths full = prepared("z".repeat(60));
        check.due("say on a full pad", full.say(127), OUTSIDE);
        check.due("say on a full pad", full.say(32), OUTSIDE);
        BlockTruths whole = prepared(WHOLE);
        check.due("range, what, no term begins there", whole.range(0, 0, 3), GONE + OUTSIDE);
        check.due("range, place, no rows", whole.range(5, 9, 0), GONE + OUTSIDE);
        check.due("may, place, no rows", whole.may(5, 9), OUTSIDE);
    }

    private void noIsThird() {
        check.sentence("NO -5 (as told), STATE -3 (as told)");
        BlockTruths x = prepared("<a");
        check.due("range, no rows", x.range(5, 1, 0), GONE + NO);
        check.due("range, no term begins there", x.range(0, 0, 0), GONE + NO);
        check.due("range, a term begins there", x.range(0, 1, 0), GONE + NO);
        check.due("may, no rows", x.may(5, 0), NO);
        check.due("may, no truth begins there", x.may(0, 1), NO);
        check.due("may, a truth begins there", x.may(0, 0), NO);
        check.due("verdict, no rows", x.verdict(5, 0), NO);
        check.due("answer", x.answer(0), NO);
        check.due("total", x.total(0, 0), GONE + NO);
        check.due("truth", x.truth(0, 0), NO);
    }

    private void stateIsFourth() {
        check.sentence("STATE -3 (as told), FULL -4.");
        BlockTruths x = prepared(WHOLE);
        check.due("range, no rows", x.range(5, 2, 0), GONE + STATE);
        check.due("range, no rows and no term", x.range(5, 0, 0), GONE + STATE);
        check.due("range, no term", x.range(0, 0, 0), GONE + STATE);
        check.due("may, no rows", x.may(5, 0), STATE);
        check.due("may, no rows and no truth", x.may(5, 2), STATE);
        check.due("may, no truth", x.may(0, 2), STATE);
        check.due("restore", x.restore(1), STATE);
        check.due("add", x.add(0, 0, 0, 0, 0), FULL);
        check.due("say", prepared("z".repeat(60)).say('z'), FULL);
    }

    private void goneAndTheRefusal() {
        check.sentence("The constants: `GONE = -3000000`: What is told of numbers that may be less than 0, if they are refused: GONE and the refusal.");
        BlockTruths x = prepared("z");
        check.due("cell", x.cell(-1, 0, 0), -3000001);
        check.due("summary", x.summary(-1, 0, 0), -3000001);
        check.due("summary", x.summary(0, 0, -1), -3000002);
        check.due("listed", x.listed(-1, 0, 0, 0), -3000001);
        check.due("listed", x.listed(0, 0, 0, -1), -3000002);
        check.due("range", x.range(-1, 0, 0), -3000001);
        check.due("range", x.range(0, -1, 0), -3000002);
        check.due("range", x.range(0, 0, 0), -3000005);
        check.due("range", prepared(WHOLE).range(0, 0, 0), -3000003);
        check.due("total", x.total(-1, 0), -3000001);
        check.due("total", x.total(0, -1), -3000002);
        check.due("total", x.total(0, 0), -3000005);
    }

    private void changeNothing() {
        check.sentence("They change nothing.");
        for (Map.Entry<String, ToIntFunction<BlockTruths>> call : refusedOfAny().entrySet()) {
            changesNothing(call.getKey(), WHOLE, call.getValue());
            changesNothing(call.getKey(), "<az", call.getValue());
            changesNothing(call.getKey(), "", call.getValue());
        }
        for (Map.Entry<String, ToIntFunction<BlockTruths>> call : refusedOfAFault().entrySet()) {
            changesNothing(call.getKey(), "<az", call.getValue());
            changesNothing(call.getKey(), "<a", call.getValue());
        }
        for (int sign : new int[] {'z', '!', 33, 126, 32, 127}) {
            changesNothing("say(" + sign + ")", "z".repeat(60), x -> x.say(sign));
            changesNothing("say(" + sign + ")", "!".repeat(58) + "ma", x -> x.say(sign));
        }
    }

    private static Map<String, ToIntFunction<BlockTruths>> refusedOfAny() {
        Map<String, ToIntFunction<BlockTruths>> calls = new LinkedHashMap<>();
        calls.put("add(6, 1, 1, 1, 1)", x -> x.add(6, 1, 1, 1, 1));
        calls.put("add(1, 1001, 1, 1, 1)", x -> x.add(1, 1001, 1, 1, 1));
        calls.put("add(1, 77, 77, 77, -1000)", x -> x.add(1, 77, 77, 77, -1000));
        calls.put("add(5, 77, 77, 77, 1001)", x -> x.add(5, 77, 77, 77, 1001));
        calls.put("add(0, 77, 77, 77, 77)", x -> x.add(0, 77, 77, 77, 77));
        calls.put("add(0, 1000, 1000, 1000, 1000)", x -> x.add(0, 1000, 1000, 1000, 1000));
        calls.put("drop(6, 0)", x -> x.drop(6, 0));
        calls.put("drop(-1, 0)", x -> x.drop(-1, 0));
        calls.put("drop(0, 8)", x -> x.drop(0, 8));
        calls.put("drop(1, 2)", x -> x.drop(1, 2));
        calls.put("drop(1, -1)", x -> x.drop(1, -1));
        calls.put("drop(5, 0)", x -> x.drop(5, 0));
        calls.put("anew(6)", x -> x.anew(6));
        calls.put("anew(-1)", x -> x.anew(-1));
        calls.put("cell(1, 2, 0)", x -> x.cell(1, 2, 0));
        calls.put("summary(1, 4, 4)", x -> x.summary(1, 4, 4));
        calls.put("summary(1, 0, 5)", x -> x.summary(1, 0, 5));
        calls.put("listed(1, 0, 0, 2)", x -> x.listed(1, 0, 0, 2));
        calls.put("say(32)", x -> x.say(32));
        calls.put("say(127)", x -> x.say(127));
        calls.put("truth(1, 2)", x -> x.truth(1, 2));
        calls.put("range(1, 60, 0)", x -> x.range(1, 60, 0));
        calls.put("range(5, 2, 0)", x -> x.range(5, 2, 0));
        calls.put("may(1, 60)", x -> x.may(1, 60));
        calls.put("may(5, 0)", x -> x.may(5, 0));
        calls.put("verdict(1, 2)", x -> x.verdict(1, 2));
        calls.put("answer(6)", x -> x.answer(6));
        calls.put("total(0, 5)", x -> x.total(0, 5));
        calls.put("total(4, 0)", x -> x.total(4, 0));
        calls.put("image(2)", x -> x.image(2));
        calls.put("image(-1)", x -> x.image(-1));
        calls.put("restore(1)", x -> x.restore(1));
        calls.put("restore(2)", x -> x.restore(2));
        calls.put("told(2)", x -> x.told(2));
        calls.put("told(26)", x -> x.told(26));
        return calls;
    }

    private static Map<String, ToIntFunction<BlockTruths>> refusedOfAFault() {
        Map<String, ToIntFunction<BlockTruths>> calls = new LinkedHashMap<>();
        calls.put("truth(1, 0)", x -> x.truth(1, 0));
        calls.put("range(1, 1, 0)", x -> x.range(1, 1, 0));
        calls.put("may(1, 0)", x -> x.may(1, 0));
        calls.put("verdict(1, 0)", x -> x.verdict(1, 0));
        calls.put("answer(0)", x -> x.answer(0));
        calls.put("answer(5)", x -> x.answer(5));
        calls.put("total(0, 0)", x -> x.total(0, 0));
        calls.put("total(0, 4)", x -> x.total(0, 4));
        return calls;
    }

    private void changesNothing(String name, String signs, ToIntFunction<BlockTruths> call) {
        BlockTruths x = prepared(signs);
        BlockTruths twin = prepared(signs);
        int answer = call.applyAsInt(x);
        check.holds(name + " is refused", answer < 0 && answer != Check.NONE);
        check.due(name + " is refused again likewise", call.applyAsInt(x), answer);
        List<Integer> is = all(x);
        List<Integer> due = all(twin);
        for (int i = 0; i < due.size(); i++) {
            check.due("after " + name + " on the pad " + signs + ", look " + i, is.get(i), due.get(i));
        }
    }

    /** All that can be seen of the blocks that are used here, of the pad, and of image 0, by some 400 calls. */
    private static List<Integer> all(BlockTruths x) {
        List<Integer> seen = new ArrayList<>();
        seen.add(x.fault());
        for (int what : new int[] {0, 1, 10, 11, 12, 13, 14, 15, 20, 21, 22, 23, 24, 25}) {
            seen.add(x.told(what));
        }
        for (int b : new int[] {0, 1, 5}) {
            seeBlock(x, b, seen);
        }
        for (int place = 0; place < Math.min(9, x.told(0)); place++) {
            seen.add(x.may(1, place));
            seen.add(x.range(1, place, 1));
        }
        for (int what = 0; what < 6; what++) {
            seen.add(x.answer(what));
            seen.add(x.total(what % 4, what % 5));
        }
        seen.add(x.restore(1));
        seen.add(x.restore(0));
        for (int what : new int[] {1, 10, 11, 12, 13, 14, 15}) {
            seen.add(x.told(what));
        }
        seen.add(x.cell(1, 0, 0));
        seen.add(x.cell(4, 0, 3));
        seen.add(x.summary(0, 0, 0));
        return seen;
    }

    private static void seeBlock(BlockTruths x, int block, List<Integer> seen) {
        for (int c = 0; c < 4; c++) {
            for (int r = 0; r < x.told(10 + block); r++) {
                seen.add(x.cell(block, r, c));
            }
            for (int what = 0; what < 5; what++) {
                seen.add(x.summary(block, c, what));
            }
            for (int i = 0; i < 3; i++) {
                seen.add(x.listed(block, c, i, 0));
                seen.add(x.listed(block, c, i, 1));
            }
        }
    }
}
