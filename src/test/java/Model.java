import java.util.ArrayList;
import java.util.Arrays;
import java.util.HashSet;
import java.util.LinkedHashSet;
import java.util.List;
import java.util.Set;
import java.util.TreeSet;

/**
 * The document once more, in another way: all numbers that came are remembered, summaries are made
 * from them when they are asked for, and a question is read by recursion, from left to right.
 */
final class Model {
    static final int NONE = -2000000, UNKNOWN = -1, OUTSIDE = -2, STATE = -3, FULL = -4, NO = -5, GONE = -3000000;
    private static final Integer MISSING = 1000;

    /** One block: its rows, and for each column all numbers that came since it was made anew. */
    private static final class Pile {
        final List<List<Integer>> rows = new ArrayList<>();
        final List<List<Integer>> came = new ArrayList<>();

        Pile() {
            for (int c = 0; c < 4; c++) {
                came.add(new ArrayList<>());
            }
        }

        Pile copy() {
            Pile p = new Pile();
            p.rows.addAll(rows);
            for (int c = 0; c < 4; c++) {
                p.came.get(c).addAll(came.get(c));
            }
            return p;
        }

        List<Integer> now(int c) {
            List<Integer> numbers = new ArrayList<>();
            for (List<Integer> row : rows) {
                if (!row.get(c).equals(MISSING)) {
                    numbers.add(row.get(c));
                }
            }
            return numbers;
        }

        int missing(int c) {
            return rows.size() - now(c).size();
        }

        int times(int c, int number) {
            int n = 0;
            for (int v : now(c)) {
                n += v == number ? 1 : 0;
            }
            return n;
        }

        List<Integer> list(int c) {
            return new ArrayList<>(new LinkedHashSet<>(came.get(c)));
        }

        boolean stale(int c) {
            return !known(came.get(c)).equals(known(now(c)));
        }

        /** All that makes a summary stale when it would be other. */
        private static List<Object> known(List<Integer> numbers) {
            TreeSet<Integer> set = new TreeSet<>(numbers);
            List<Object> all = new ArrayList<>();
            all.add(set.isEmpty() ? NONE : set.first());
            all.add(set.isEmpty() ? NONE : set.last());
            all.add(set.size() > 4);
            all.add(set.size() > 4 ? new TreeSet<Integer>() : set);
            return all;
        }
    }

    private static final class Fault extends RuntimeException {
        private static final long serialVersionUID = 1L;
        final int place;

        Fault(int place) {
            this.place = place;
        }
    }

    private Pile[] piles = new Pile[6];
    private final Pile[][] kept = new Pile[2][];
    private String pad = "";
    private int at;

    Model() {
        for (int b = 0; b < 6; b++) {
            piles[b] = new Pile();
        }
    }

    private static boolean in(int n, int low, int high) {
        return n >= low && n <= high;
    }

    int add(int block, int a, int b, int c, int d) {
        if (!in(block, 0, 5)) return UNKNOWN;
        List<Integer> row = Arrays.asList(a, b, c, d);
        for (int v : row) {
            if (!in(v, -999, 1000)) return OUTSIDE;
        }
        if (piles[block].rows.size() == 8) return FULL;
        piles[block].rows.add(row);
        for (int i = 0; i < 4; i++) {
            if (!row.get(i).equals(MISSING)) piles[block].came.get(i).add(row.get(i));
        }
        return piles[block].rows.size();
    }

    int drop(int block, int row) {
        if (!in(block, 0, 5) || !in(row, 0, piles[block].rows.size() - 1)) return UNKNOWN;
        piles[block].rows.remove(row);
        return piles[block].rows.size();
    }

    int anew(int block) {
        if (!in(block, 0, 5)) return UNKNOWN;
        int stale = 0;
        for (int c = 0; c < 4; c++) {
            stale += piles[block].stale(c) ? 1 : 0;
            piles[block].came.set(c, piles[block].now(c));
        }
        return stale;
    }

    int cell(int block, int row, int column) {
        if (!in(block, 0, 5) || !in(column, 0, 3) || !in(row, 0, piles[block].rows.size() - 1)) return GONE + UNKNOWN;
        return piles[block].rows.get(row).get(column);
    }

    int summary(int block, int column, int what) {
        if (!in(block, 0, 5) || !in(column, 0, 3)) return GONE + UNKNOWN;
        if (!in(what, 0, 4)) return GONE + OUTSIDE;
        Pile p = piles[block];
        TreeSet<Integer> set = new TreeSet<>(p.came.get(column));
        if (what == 2) return p.missing(column);
        if (what == 3) return set.size() > 4 ? NONE : set.size();
        if (what == 4) return p.stale(column) ? 1 : 0;
        if (set.isEmpty()) return NONE;
        return what == 0 ? set.first() : set.last();
    }

    int listed(int block, int column, int i, int what) {
        if (!in(block, 0, 5) || !in(column, 0, 3)) return GONE + UNKNOWN;
        if (!in(what, 0, 1)) return GONE + OUTSIDE;
        List<Integer> list = piles[block].list(column);
        if (list.size() > 4 || !in(i, 0, list.size() - 1)) return NONE;
        return what == 0 ? list.get(i) : piles[block].times(column, list.get(i));
    }

    int say(int sign) {
        if (!in(sign, 33, 126)) return OUTSIDE;
        if (pad.length() == 60) return FULL;
        pad += (char) sign;
        return pad.length();
    }

    int wipe() {
        int n = pad.length();
        pad = "";
        return n;
    }

    int fault() {
        at = 0;
        try {
            readTruth();
            return at < pad.length() ? at : NONE;
        } catch (Fault f) {
            return f.place;
        }
    }

    private void readOneOf(String signs) {
        if (at >= pad.length() || signs.indexOf(pad.charAt(at)) < 0) throw new Fault(Math.min(at, pad.length()));
        at++;
    }

    private void readTruth() {
        char sign = at < pad.length() ? pad.charAt(at) : ' ';
        readOneOf("<=&|!m");
        if (sign == 'm') {
            readOneOf("abcd");
        } else if (sign == '!') {
            readTruth();
        } else if (sign == '&' || sign == '|') {
            readTruth();
            readTruth();
        } else {
            readTerm();
            readTerm();
        }
    }

    private void readTerm() {
        char sign = at < pad.length() ? pad.charAt(at) : ' ';
        readOneOf("abcd0123456789#~+-*%y");
        if (sign == '#') {
            for (int i = 0; i < 3; i++) readOneOf("0123456789");
        } else if ("~y%+-*".indexOf(sign) >= 0) {
            readTerm();
            if (sign == '%') readOneOf("123456789");
            if ("+-*".indexOf(sign) >= 0) readTerm();
        }
    }

    private static int cut(long n) {
        return (int) Math.max(-1000000L, Math.min(1000000L, n));
    }

    private static int byteOf(int n) {
        return Math.floorMod(n + 128, 256) - 128;
    }

    /** The number of the TERM at the place, null if it is missing; goes on behind it. */
    private Integer term(List<Integer> row) {
        char sign = pad.charAt(at++);
        if (in(sign, 'a', 'd')) return row.get(sign - 'a').equals(MISSING) ? null : row.get(sign - 'a');
        if (in(sign, '0', '9')) return sign - '0';
        if (sign == '#') {
            at += 3;
            return Integer.parseInt(pad.substring(at - 3, at));
        }
        Integer x = term(row);
        if (sign == '~') return x == null ? null : Integer.valueOf(-x);
        if (sign == 'y') return x == null ? null : Integer.valueOf(byteOf(x));
        if (sign == '%') {
            int n = pad.charAt(at++) - '0';
            return x == null ? null : Integer.valueOf(Integer.signum(x) * (Math.abs(x) % n));
        }
        Integer y = term(row);
        if (x == null || y == null) return null;
        return sign == '+' ? cut(x + y) : sign == '-' ? cut(x - y) : cut((long) x * y);
    }

    /** 2 TRUE, 1 UNKNOWN, 0 FALSE: so BOTH is the least, EITHER the greatest. */
    private int rank(List<Integer> row) {
        char sign = pad.charAt(at++);
        if (sign == 'm') return row.get(pad.charAt(at++) - 'a').equals(MISSING) ? 2 : 0;
        if (sign == '!') return 2 - rank(row);
        if (sign == '&' || sign == '|') {
            int x = rank(row);
            int y = rank(row);
            return sign == '&' ? Math.min(x, y) : Math.max(x, y);
        }
        Integer x = term(row);
        Integer y = term(row);
        if (x == null || y == null) return 1;
        return (sign == '<' ? x < y : x.intValue() == y.intValue()) ? 2 : 0;
    }

    private int truthOf(List<Integer> row) {
        at = 0;
        return new int[] {0, 2, 1}[rank(row)];
    }

    int truth(int block, int row) {
        if (!in(block, 0, 5) || !in(row, 0, piles[block].rows.size() - 1)) return UNKNOWN;
        if (fault() != NONE) return NO;
        return truthOf(piles[block].rows.get(row));
    }

    /** Kind, low, high of the TERM at the place. */
    private int[] rangeAt(Pile p) {
        char sign = pad.charAt(at++);
        if (in(sign, 'a', 'd')) {
            int c = sign - 'a';
            int kind = (p.missing(c) < p.rows.size() ? 1 : 0) + (p.missing(c) > 0 ? 2 : 0);
            if (kind == 2) return new int[] {2, NONE, NONE};
            TreeSet<Integer> set = new TreeSet<>(p.came.get(c));
            return new int[] {kind, set.first(), set.last()};
        }
        if (in(sign, '0', '9')) return new int[] {1, sign - '0', sign - '0'};
        if (sign == '#') {
            at += 3;
            int n = Integer.parseInt(pad.substring(at - 3, at));
            return new int[] {1, n, n};
        }
        int[] x = rangeAt(p);
        if (sign == '~') return x[0] == 2 ? x : new int[] {x[0], -x[2], -x[1]};
        if (sign == '%') {
            int n = pad.charAt(at++) - '0';
            return x[0] == 2 ? x : leftOver(x, n);
        }
        if (sign == 'y') return x[0] == 2 ? x : bytes(x);
        int[] y = rangeAt(p);
        int kind = ((x[0] & 1) != 0 && (y[0] & 1) != 0 ? 1 : 0) + ((x[0] & 2) != 0 || (y[0] & 2) != 0 ? 2 : 0);
        if (kind == 2) return new int[] {2, NONE, NONE};
        TreeSet<Integer> ends = new TreeSet<>();
        for (int i = 1; i <= 2; i++) {
            for (int j = 1; j <= 2; j++) {
                long made = sign == '+' ? (long) x[i] + y[j] : sign == '-' ? (long) x[i] - y[j] : (long) x[i] * y[j];
                ends.add(cut(made));
            }
        }
        return new int[] {kind, ends.first(), ends.last()};
    }

    private static int[] leftOver(int[] x, int n) {
        int l = x[1];
        int h = x[2];
        if (l / n == h / n && !(l < 0 && h > 0)) return new int[] {x[0], l % n, h % n};
        return new int[] {x[0], l >= 0 ? 0 : Math.max(l, -(n - 1)), h <= 0 ? 0 : Math.min(h, n - 1)};
    }

    private static int[] bytes(int[] x) {
        int l = byteOf(x[1]);
        int h = byteOf(x[2]);
        return x[2] < x[1] + 256 && l <= h ? new int[] {x[0], l, h} : new int[] {x[0], -128, 127};
    }

    /** The set of ranks that the TRUTH at the place may have. */
    private Set<Integer> mayAt(Pile p) {
        Set<Integer> made = new HashSet<>();
        char sign = pad.charAt(at++);
        if (sign == 'm') {
            int missing = p.missing(pad.charAt(at++) - 'a');
            if (missing > 0) made.add(2);
            if (missing < p.rows.size()) made.add(0);
        } else if (sign == '!') {
            for (int r : mayAt(p)) made.add(2 - r);
        } else if (sign == '&' || sign == '|') {
            Set<Integer> first = mayAt(p);
            Set<Integer> second = mayAt(p);
            for (int r : first) {
                for (int s : second) made.add(sign == '&' ? Math.min(r, s) : Math.max(r, s));
            }
        } else {
            int[] x = rangeAt(p);
            int[] y = rangeAt(p);
            if (x[0] > 1 || y[0] > 1) made.add(1);
            if (x[0] != 2 && y[0] != 2) {
                boolean one = x[1] == x[2] && y[1] == y[2] && x[1] == y[1];
                if (sign == '<' ? x[1] < y[2] : Math.max(x[1], y[1]) <= Math.min(x[2], y[2])) made.add(2);
                if (sign == '<' ? x[2] >= y[1] : !one) made.add(0);
            }
        }
        return made;
    }

    private static int bits(Set<Integer> ranks) {
        return (ranks.contains(2) ? 1 : 0) + (ranks.contains(0) ? 2 : 0) + (ranks.contains(1) ? 4 : 0);
    }

    /** Which places begin a TERM (t) or a TRUTH (T), by one walk from left to right. */
    private String beginnings() {
        StringBuilder s = new StringBuilder(".".repeat(pad.length()));
        for (int i = 0; i < pad.length(); i++) {
            char sign = pad.charAt(i);
            if ("<=&|!m".indexOf(sign) >= 0) s.setCharAt(i, 'T');
            if ("~y%+-*#".indexOf(sign) >= 0) s.setCharAt(i, 't');
        }
        walk(s, true);
        return s.toString();
    }

    private void walk(StringBuilder s, boolean fromStart) {
        if (fromStart) at = 0;
        int here = at;
        char sign = pad.charAt(at++);
        if (in(sign, 'a', 'd') || in(sign, '0', '9')) s.setCharAt(here, 't');
        if (sign == 'm') at++;
        if (sign == '#') at += 3;
        if ("!~y%<=&|+-*".indexOf(sign) >= 0) walk(s, false);
        if ("<=&|+-*".indexOf(sign) >= 0) walk(s, false);
        if (sign == '%') at++;
    }

    int range(int block, int place, int what) {
        if (!in(block, 0, 5)) return GONE + UNKNOWN;
        if (!in(place, 0, pad.length() - 1) || !in(what, 0, 2)) return GONE + OUTSIDE;
        if (fault() != NONE) return GONE + NO;
        if (piles[block].rows.isEmpty() || beginnings().charAt(place) != 't') return GONE + STATE;
        at = place;
        return rangeAt(piles[block])[what];
    }

    int may(int block, int place) {
        if (!in(block, 0, 5)) return UNKNOWN;
        if (!in(place, 0, pad.length() - 1)) return OUTSIDE;
        if (fault() != NONE) return NO;
        if (piles[block].rows.isEmpty() || beginnings().charAt(place) != 'T') return STATE;
        at = place;
        return bits(mayAt(piles[block]));
    }

    private int mayOfAll(Pile p) {
        if (p.rows.isEmpty()) return 0;
        TreeSet<Integer> columns = new TreeSet<>();
        for (char sign : pad.toCharArray()) {
            if (in(sign, 'a', 'd')) columns.add(sign - 'a');
        }
        if (columns.size() == 1 && p.list(columns.first()).size() <= 4) {
            // what the rows have now is just what the list has that some row has
            int made = 0;
            for (List<Integer> row : p.rows) made |= new int[] {2, 1, 4}[truthOf(row)];
            return made;
        }
        at = 0;
        return bits(mayAt(p));
    }

    private int verdictOf(Pile p) {
        int may = mayOfAll(p);
        return (may & 1) == 0 ? 0 : may == 1 ? 1 : 2;
    }

    int verdict(int block, int what) {
        if (!in(block, 0, 5)) return UNKNOWN;
        if (!in(what, 0, 1)) return OUTSIDE;
        if (fault() != NONE) return NO;
        return what == 1 ? mayOfAll(piles[block]) : verdictOf(piles[block]);
    }

    private List<List<Integer>> matches() {
        List<List<Integer>> all = new ArrayList<>();
        for (Pile p : piles) {
            for (List<Integer> row : p.rows) {
                if (truthOf(row) == 1) all.add(row);
            }
        }
        return all;
    }

    int answer(int what) {
        if (!in(what, 0, 5)) return OUTSIDE;
        if (fault() != NONE) return NO;
        if (what == 0) return matches().size();
        if (what == 1) return new HashSet<>(matches()).size();
        int rows = 0;
        int bits = 0;
        for (int b = 0; b < 6; b++) {
            int verdict = verdictOf(piles[b]);
            if (verdict == 2) rows += piles[b].rows.size();
            if (verdict == what - 3) bits += 1 << b;
        }
        return what == 2 ? rows : bits;
    }

    int total(int column, int what) {
        if (!in(column, 0, 3)) return GONE + UNKNOWN;
        if (!in(what, 0, 4)) return GONE + OUTSIDE;
        if (fault() != NONE) return GONE + NO;
        if (what == 4) {
            int rows = 0;
            for (Pile p : piles) {
                int verdict = verdictOf(p);
                if (verdict == 2 || verdict == 1 && p.stale(column)) rows += p.rows.size();
            }
            return rows;
        }
        List<Integer> numbers = new ArrayList<>();
        for (List<Integer> row : matches()) {
            if (!row.get(column).equals(MISSING)) numbers.add(row.get(column));
        }
        if (what == 3) return matches().size() - numbers.size();
        if (what == 2) return numbers.stream().mapToInt(Integer::intValue).sum();
        TreeSet<Integer> set = new TreeSet<>(numbers);
        return set.isEmpty() ? NONE : what == 0 ? set.first() : set.last();
    }

    private static Pile[] copyOf(Pile[] piles) {
        Pile[] copy = new Pile[6];
        for (int b = 0; b < 6; b++) copy[b] = piles[b].copy();
        return copy;
    }

    int image(int n) {
        if (!in(n, 0, 1)) return OUTSIDE;
        kept[n] = copyOf(piles);
        return 1;
    }

    int restore(int n) {
        if (!in(n, 0, 1)) return OUTSIDE;
        if (kept[n] == null) return STATE;
        piles = copyOf(kept[n]);
        return 1;
    }

    int told(int what) {
        if (what == 0) return pad.length();
        int rows = 0;
        for (Pile p : piles) rows += p.rows.size();
        if (what == 1) return rows;
        if (in(what, 10, 15)) return piles[what - 10].rows.size();
        if (in(what, 20, 25)) return new HashSet<>(piles[what - 20].rows).size();
        return OUTSIDE;
    }
}
