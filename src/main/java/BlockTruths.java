/**
 * Rows of four columns lie in blocks; of each block a summary is kept that may be stale, but never
 * is too narrow. A question told by signs is true, false or unknown of a row; the summaries tell
 * which of these it can be in a block, so that the block is skipped, taken whole, or scanned.
 */
public final class BlockTruths {
    public static final int NONE = -2000000, UNKNOWN = -1, OUTSIDE = -2, STATE = -3, FULL = -4, NO = -5;
    public static final int GONE = -3000000;

    private static final int BLOCKS = 6;
    private static final int ROWS = 8;
    private static final int COLUMNS = 4;
    private static final int LIST = 4;
    private static final int PAD = 60;
    private static final int IMAGES = 2;

    private static final int MISSING = 1000;
    private static final int LEAST_NUMBER = -999;
    private static final int MOST = 1000000;

    /** A TERM that is MISSING of a ROW: 1000 would not do, since a TERM may be the number 1000. */
    private static final int ABSENT = NONE;

    private static final int FALSE = 0;
    private static final int TRUE = 1;
    private static final int UNSURE = 2;

    private static final int MAY_BE_TRUE = 1;
    private static final int MAY_BE_FALSE = 2;
    private static final int MAY_BE_UNSURE = 4;

    private static final int MAY_BE_NUMBER = 1;
    private static final int MAY_BE_MISSING = 2;

    private static final int SKIPPED = 0;
    private static final int TAKEN = 1;
    private static final int SCANNED = 2;

    /** What can be awaited at a place of the PAD; the last three begin neither a TRUTH nor a TERM. */
    private static final int TRUTH = 1;
    private static final int TERM = 2;
    private static final int LETTER = 3;
    private static final int FIGURE = 4;
    private static final int DIVISOR = 5;

    private final Store store;
    /** Null where nothing was kept; made when it is first needed, then used again. */
    private final Store[] images;
    private final Question question;
    private final RowJudge rowJudge;
    private final RangeJudge rangeJudge;
    private final int[] listedRow;
    private final int[] chances;
    private final RowKeys keys;
    private final Tally tally;

    public BlockTruths() {
        store = new Store();
        images = new Store[IMAGES];
        question = new Question();
        rowJudge = new RowJudge(question);
        rangeJudge = new RangeJudge(question);
        listedRow = new int[COLUMNS];
        chances = new int[BLOCKS];
        keys = new RowKeys();
        tally = new Tally();
    }

    // ---- 1 rows, summaries

    public int add(int block, int a, int b, int c, int d) {
        if (!isBlock(block)) {
            return UNKNOWN;
        }
        if (!isEntry(a) || !isEntry(b) || !isEntry(c) || !isEntry(d)) {
            return OUTSIDE;
        }
        return store.blocks[block].append(a, b, c, d);
    }

    public int drop(int block, int row) {
        if (!isRow(block, row)) {
            return UNKNOWN;
        }
        return store.blocks[block].remove(row);
    }

    public int anew(int block) {
        if (!isBlock(block)) {
            return UNKNOWN;
        }
        return store.blocks[block].renew();
    }

    public int cell(int block, int row, int column) {
        if (!isRow(block, row) || !isColumn(column)) {
            return GONE + UNKNOWN;
        }
        return store.blocks[block].cells[row][column];
    }

    public int summary(int block, int column, int what) {
        if (!isBlock(block) || !isColumn(column)) {
            return GONE + UNKNOWN;
        }
        Summary known = store.blocks[block].summaries[column];
        switch (what) {
            case 0:
                return known.least;
            case 1:
                return known.greatest;
            case 2:
                return known.missing;
            case 3:
                return known.lost ? NONE : known.size;
            case 4:
                return store.blocks[block].isStale(column) ? 1 : 0;
            default:
                return GONE + OUTSIDE;
        }
    }

    public int listed(int block, int column, int i, int what) {
        if (!isBlock(block) || !isColumn(column)) {
            return GONE + UNKNOWN;
        }
        if (what != 0 && what != 1) {
            return GONE + OUTSIDE;
        }
        Summary known = store.blocks[block].summaries[column];
        if (known.lost || i < 0 || i >= known.size) {
            return NONE;
        }
        return what == 0 ? known.numbers[i] : known.counts[i];
    }

    // ---- 2 questions

    public int say(int sign) {
        if (sign < 33 || sign > 126) {
            return OUTSIDE;
        }
        return question.append(sign);
    }

    public int wipe() {
        int signs = question.size;
        question.clear();
        return signs;
    }

    public int fault() {
        return question.faultPlace();
    }

    public int truth(int block, int row) {
        if (!isRow(block, row)) {
            return UNKNOWN;
        }
        if (question.isFaulty()) {
            return NO;
        }
        return rowJudge.judge(store.blocks[block].cells[row]);
    }

    // ---- 3 blocks

    public int range(int block, int place, int what) {
        if (!isBlock(block)) {
            return GONE + UNKNOWN;
        }
        if (!isPlace(place) || what < 0 || what > 2) {
            return GONE + OUTSIDE;
        }
        if (question.isFaulty()) {
            return GONE + NO;
        }
        if (store.blocks[block].rows == 0 || question.roles[place] != TERM) {
            return GONE + STATE;
        }
        rangeJudge.judge(store.blocks[block]);
        if (what == 0) {
            return rangeJudge.kinds[place];
        }
        return what == 1 ? rangeJudge.lows[place] : rangeJudge.highs[place];
    }

    public int may(int block, int place) {
        if (!isBlock(block)) {
            return UNKNOWN;
        }
        if (!isPlace(place)) {
            return OUTSIDE;
        }
        if (question.isFaulty()) {
            return NO;
        }
        if (store.blocks[block].rows == 0 || question.roles[place] != TRUTH) {
            return STATE;
        }
        rangeJudge.judge(store.blocks[block]);
        return rangeJudge.kinds[place];
    }

    public int verdict(int block, int what) {
        if (!isBlock(block)) {
            return UNKNOWN;
        }
        if (what != 0 && what != 1) {
            return OUTSIDE;
        }
        if (question.isFaulty()) {
            return NO;
        }
        int chance = chancesIn(store.blocks[block]);
        return what == 0 ? rulingOf(chance) : chance;
    }

    public int answer(int what) {
        if (what < 0 || what > 5) {
            return OUTSIDE;
        }
        if (question.isFaulty()) {
            return NO;
        }
        switch (what) {
            case 0:
                return countMatches();
            case 1:
                return countUnlikeMatches();
            case 2:
                weighBlocks();
                return countScannedRows();
            default:
                weighBlocks();
                return blocksRuled(what - 3);
        }
    }

    public int total(int column, int what) {
        if (!isColumn(column)) {
            return GONE + UNKNOWN;
        }
        if (what < 0 || what > 4) {
            return GONE + OUTSIDE;
        }
        if (question.isFaulty()) {
            return GONE + NO;
        }
        if (what == 4) {
            weighBlocks();
            return countRowsToRead(column);
        }
        tallyMatches(column);
        switch (what) {
            case 0:
                return tally.least;
            case 1:
                return tally.greatest;
            case 2:
                return tally.sum;
            default:
                return tally.missing;
        }
    }

    public int image(int n) {
        if (!isImage(n)) {
            return OUTSIDE;
        }
        if (images[n] == null) {
            images[n] = new Store();
        }
        images[n].copyFrom(store);
        return 1;
    }

    public int restore(int n) {
        if (!isImage(n)) {
            return OUTSIDE;
        }
        if (images[n] == null) {
            return STATE;
        }
        store.copyFrom(images[n]);
        return 1;
    }

    public int told(int what) {
        if (what == 0) {
            return question.size;
        }
        if (what == 1) {
            return store.countRows();
        }
        if (what >= 10 && isBlock(what - 10)) {
            return store.blocks[what - 10].rows;
        }
        if (what >= 20 && isBlock(what - 20)) {
            return countUnlike(store.blocks[what - 20]);
        }
        return OUTSIDE;
    }

    // ---- what is there

    private boolean isRow(int block, int row) {
        return isBlock(block) && row >= 0 && row < store.blocks[block].rows;
    }

    private boolean isPlace(int place) {
        return place >= 0 && place < question.size;
    }

    private static boolean isBlock(int block) {
        return block >= 0 && block < BLOCKS;
    }

    private static boolean isColumn(int column) {
        return column >= 0 && column < COLUMNS;
    }

    private static boolean isImage(int n) {
        return n >= 0 && n < IMAGES;
    }

    private static boolean isEntry(int value) {
        return value >= LEAST_NUMBER && value <= MISSING;
    }

    // ---- what the whole QUESTION is of BLOCKS and of their ROWS; it has no FAULT here

    /** MAY of the whole QUESTION: what each listed number makes it is narrower than any RANGE. */
    private int chancesIn(Block block) {
        if (block.rows == 0) {
            return 0;
        }
        int column = question.onlyColumn();
        if (column != NONE && !block.summaries[column].lost) {
            return chancesByList(block.summaries[column], column);
        }
        rangeJudge.judge(block);
        return rangeJudge.kinds[0];
    }

    private int chancesByList(Summary known, int column) {
        int chance = 0;
        for (int i = 0; i < known.size; i++) {
            if (known.counts[i] > 0) {
                listedRow[column] = known.numbers[i];
                chance |= chanceOf(rowJudge.judge(listedRow));
            }
        }
        if (known.missing > 0) {
            listedRow[column] = MISSING;
            chance |= chanceOf(rowJudge.judge(listedRow));
        }
        return chance;
    }

    /** Fills the chances by which the BLOCKS are told apart below. */
    private void weighBlocks() {
        for (int b = 0; b < BLOCKS; b++) {
            chances[b] = chancesIn(store.blocks[b]);
        }
    }

    private static int rulingOf(int chance) {
        if ((chance & MAY_BE_TRUE) == 0) {
            return SKIPPED;
        }
        return chance == MAY_BE_TRUE ? TAKEN : SCANNED;
    }

    private int blocksRuled(int ruling) {
        int bits = 0;
        for (int b = 0; b < BLOCKS; b++) {
            if (rulingOf(chances[b]) == ruling) {
                bits |= 1 << b;
            }
        }
        return bits;
    }

    private int countScannedRows() {
        int rows = 0;
        for (int b = 0; b < BLOCKS; b++) {
            if (rulingOf(chances[b]) == SCANNED) {
                rows += store.blocks[b].rows;
            }
        }
        return rows;
    }

    private int countRowsToRead(int column) {
        int rows = 0;
        for (int b = 0; b < BLOCKS; b++) {
            int ruling = rulingOf(chances[b]);
            if (ruling == SCANNED || ruling == TAKEN && store.blocks[b].isStale(column)) {
                rows += store.blocks[b].rows;
            }
        }
        return rows;
    }

    private boolean isMatch(int[] row) {
        return rowJudge.judge(row) == TRUE;
    }

    private int countMatches() {
        int matches = 0;
        for (int b = 0; b < BLOCKS; b++) {
            Block block = store.blocks[b];
            for (int r = 0; r < block.rows; r++) {
                if (isMatch(block.cells[r])) {
                    matches++;
                }
            }
        }
        return matches;
    }

    private int countUnlikeMatches() {
        keys.clear();
        for (int b = 0; b < BLOCKS; b++) {
            Block block = store.blocks[b];
            for (int r = 0; r < block.rows; r++) {
                if (isMatch(block.cells[r])) {
                    keys.note(block.cells[r]);
                }
            }
        }
        return keys.size;
    }

    private int countUnlike(Block block) {
        keys.clear();
        for (int r = 0; r < block.rows; r++) {
            keys.note(block.cells[r]);
        }
        return keys.size;
    }

    private void tallyMatches(int column) {
        tally.clear();
        for (int b = 0; b < BLOCKS; b++) {
            Block block = store.blocks[b];
            for (int r = 0; r < block.rows; r++) {
                if (isMatch(block.cells[r])) {
                    tally.note(block.cells[r][column]);
                }
            }
        }
    }

    // ---- signs, numbers and truths

    private static boolean isLetter(int sign) {
        return sign >= 'a' && sign <= 'd';
    }

    private static boolean isFigure(int sign) {
        return sign >= '0' && sign <= '9';
    }

    /** + - and *: their RANGE comes of two TERMS, and what they make is cut. */
    private static boolean isSum(int sign) {
        return sign == '+' || sign == '-' || sign == '*';
    }

    /** Also % counts as such: its second part is its divisor. */
    private static boolean hasSecond(int sign) {
        return isSum(sign) || sign == '%' || sign == '<' || sign == '=' || sign == '&' || sign == '|';
    }

    /** Reads an element, 0 where there is none, so that no place can lead out of a row. */
    private static int at(int[] elements, int place) {
        return place >= 0 && place < elements.length ? elements[place] : 0;
    }

    /** What +, - or * makes, cut. */
    private static int sumOf(int sign, int x, int y) {
        long made = (long) x * y;
        if (sign == '+') {
            made = (long) x + y;
        } else if (sign == '-') {
            made = (long) x - y;
        }
        if (made < -MOST) {
            return -MOST;
        }
        return made > MOST ? MOST : (int) made;
    }

    private static int bothOf(int x, int y) {
        if (x == FALSE || y == FALSE) {
            return FALSE;
        }
        return x == UNSURE || y == UNSURE ? UNSURE : TRUE;
    }

    private static int eitherOf(int x, int y) {
        if (x == TRUE || y == TRUE) {
            return TRUE;
        }
        return x == UNSURE || y == UNSURE ? UNSURE : FALSE;
    }

    private static int notOf(int x) {
        if (x == UNSURE) {
            return UNSURE;
        }
        return x == TRUE ? FALSE : TRUE;
    }

    private static int chanceOf(int x) {
        if (x == UNSURE) {
            return MAY_BE_UNSURE;
        }
        return x == TRUE ? MAY_BE_TRUE : MAY_BE_FALSE;
    }

    /** What is known of one COLUMN of one BLOCK. */
    private static final class Summary {
        int least;
        int greatest;
        int missing;
        int size;
        boolean lost;
        final int[] numbers;
        final int[] counts;

        Summary() {
            numbers = new int[LIST];
            counts = new int[LIST];
            clear();
        }

        void clear() {
            least = NONE;
            greatest = NONE;
            missing = 0;
            size = 0;
            lost = false;
        }

        void come(int value) {
            if (value == MISSING) {
                missing++;
                return;
            }
            least = least == NONE ? value : Math.min(least, value);
            greatest = greatest == NONE ? value : Math.max(greatest, value);
            if (!lost) {
                enlist(value);
            }
        }

        private void enlist(int value) {
            int i = placeOf(value);
            if (i != NONE) {
                counts[i]++;
            } else if (size < LIST) {
                numbers[size] = value;
                counts[size] = 1;
                size++;
            } else {
                lost = true;
                size = 0;
            }
        }

        /** Least, greatest and the list stay as they are: they may get stale, but never too narrow. */
        void leave(int value) {
            if (value == MISSING) {
                missing--;
                return;
            }
            int i = placeOf(value);
            if (i != NONE) {
                counts[i]--;
            }
        }

        private int placeOf(int value) {
            for (int i = 0; i < size; i++) {
                if (numbers[i] == value) {
                    return i;
                }
            }
            return NONE;
        }

        /** Neither the order of the list nor how often its numbers are there makes a difference. */
        boolean differsFrom(Summary other) {
            if (least != other.least || greatest != other.greatest) {
                return true;
            }
            if (lost != other.lost || size != other.size) {
                return true;
            }
            for (int i = 0; i < other.size; i++) {
                if (placeOf(other.numbers[i]) == NONE) {
                    return true;
                }
            }
            return false;
        }

        void copyFrom(Summary other) {
            least = other.least;
            greatest = other.greatest;
            missing = other.missing;
            size = other.size;
            lost = other.lost;
            System.arraycopy(other.numbers, 0, numbers, 0, LIST);
            System.arraycopy(other.counts, 0, counts, 0, LIST);
        }
    }

    /** Up to eight ROWS, by place, and a SUMMARY of each COLUMN. */
    private static final class Block {
        int rows;
        final int[][] cells;
        final Summary[] summaries;
        private final Summary fresh;

        Block() {
            cells = new int[ROWS][COLUMNS];
            summaries = new Summary[COLUMNS];
            for (int column = 0; column < COLUMNS; column++) {
                summaries[column] = new Summary();
            }
            fresh = new Summary();
        }

        int append(int a, int b, int c, int d) {
            if (rows >= ROWS) {
                return FULL;
            }
            int[] row = cells[rows];
            row[0] = a;
            row[1] = b;
            row[2] = c;
            row[3] = d;
            for (int column = 0; column < COLUMNS; column++) {
                summaries[column].come(row[column]);
            }
            rows++;
            return rows;
        }

        /** The row is there: the caller has looked. */
        int remove(int row) {
            for (int column = 0; column < COLUMNS; column++) {
                summaries[column].leave(cells[row][column]);
            }
            for (int r = row + 1; r < rows; r++) {
                System.arraycopy(cells[r], 0, cells[r - 1], 0, COLUMNS);
            }
            rows--;
            return rows;
        }

        private void makeFresh(int column) {
            fresh.clear();
            for (int r = 0; r < rows; r++) {
                fresh.come(cells[r][column]);
            }
        }

        boolean isStale(int column) {
            makeFresh(column);
            return summaries[column].differsFrom(fresh);
        }

        /** Also a column that is not stale is made anew: the order of its list may change. */
        int renew() {
            int stale = 0;
            for (int column = 0; column < COLUMNS; column++) {
                if (isStale(column)) {
                    stale++;
                }
                summaries[column].copyFrom(fresh);
            }
            return stale;
        }

        void copyFrom(Block other) {
            rows = other.rows;
            for (int r = 0; r < ROWS; r++) {
                System.arraycopy(other.cells[r], 0, cells[r], 0, COLUMNS);
            }
            for (int column = 0; column < COLUMNS; column++) {
                summaries[column].copyFrom(other.summaries[column]);
            }
        }
    }

    /** All that an IMAGE keeps. */
    private static final class Store {
        final Block[] blocks;

        Store() {
            blocks = new Block[BLOCKS];
            for (int b = 0; b < BLOCKS; b++) {
                blocks[b] = new Block();
            }
        }

        int countRows() {
            int rows = 0;
            for (int b = 0; b < BLOCKS; b++) {
                rows += blocks[b].rows;
            }
            return rows;
        }

        void copyFrom(Store other) {
            for (int b = 0; b < BLOCKS; b++) {
                blocks[b].copyFrom(other.blocks[b]);
            }
        }
    }

    /** The PAD. Each sign is looked at once, as it comes: it says what must come behind it. */
    private static final class Question {
        int size;
        final int[] signs;
        final int[] roles;
        /** Where the second part of a sign begins; known only if there is no FAULT. */
        final int[] seconds;
        /** What a figure, or # and three figures, tells, and by what % divides; known likewise. */
        final int[] numbers;
        private final int[] ends;
        /** What must still come, what comes next being the last; a sign adds two at the most. */
        private final int[] awaited;
        private int depth;
        private int wrongPlace;

        Question() {
            signs = new int[PAD];
            roles = new int[PAD];
            seconds = new int[PAD];
            numbers = new int[PAD];
            ends = new int[PAD];
            awaited = new int[2 * PAD + 1];
            clear();
        }

        void clear() {
            size = 0;
            depth = 0;
            wrongPlace = NONE;
            await(TRUTH);
        }

        int append(int sign) {
            if (size >= PAD) {
                return FULL;
            }
            signs[size] = sign;
            if (wrongPlace == NONE && !canStand(sign)) {
                wrongPlace = size;
            }
            size++;
            if (!isFaulty()) {
                findParts();
            }
            return size;
        }

        int faultPlace() {
            if (wrongPlace != NONE) {
                return wrongPlace;
            }
            return depth > 0 ? size : NONE;
        }

        boolean isFaulty() {
            return wrongPlace != NONE || depth > 0;
        }

        private void await(int role) {
            if (depth < awaited.length) {
                awaited[depth] = role;
                depth++;
            }
        }

        private boolean canStand(int sign) {
            if (depth == 0) {
                return false;
            }
            depth--;
            int role = awaited[depth];
            roles[size] = role;
            switch (role) {
                case TRUTH:
                    return beginsTruth(sign);
                case TERM:
                    return beginsTerm(sign);
                case LETTER:
                    return isLetter(sign);
                case FIGURE:
                    return isFigure(sign);
                default:
                    return isFigure(sign) && sign != '0';
            }
        }

        private boolean beginsTruth(int sign) {
            switch (sign) {
                case '<':
                case '=':
                    await(TERM);
                    await(TERM);
                    return true;
                case '&':
                case '|':
                    await(TRUTH);
                    await(TRUTH);
                    return true;
                case '!':
                    await(TRUTH);
                    return true;
                case 'm':
                    await(LETTER);
                    return true;
                default:
                    return false;
            }
        }

        private boolean beginsTerm(int sign) {
            switch (sign) {
                case '#':
                    await(FIGURE);
                    await(FIGURE);
                    await(FIGURE);
                    return true;
                case '~':
                case 'y':
                    await(TERM);
                    return true;
                case '+':
                case '-':
                case '*':
                    await(TERM);
                    await(TERM);
                    return true;
                case '%':
                    await(DIVISOR);
                    await(TERM);
                    return true;
                default:
                    return isLetter(sign) || isFigure(sign);
            }
        }

        /** Backwards, so that where the parts of a sign end is known before the sign itself. */
        private void findParts() {
            for (int place = size - 1; place >= 0; place--) {
                int sign = signs[place];
                seconds[place] = at(ends, place + 1);
                numbers[place] = numberAt(place);
                if (hasSecond(sign)) {
                    ends[place] = at(ends, seconds[place]);
                } else if (sign == '~' || sign == 'y' || sign == '!' || sign == 'm') {
                    ends[place] = at(ends, place + 1);
                } else {
                    ends[place] = sign == '#' ? place + 4 : place + 1;
                }
            }
        }

        private int numberAt(int place) {
            if (signs[place] == '#') {
                return 100 * figureAt(place + 1) + 10 * figureAt(place + 2) + figureAt(place + 3);
            }
            return figureAt(signs[place] == '%' ? seconds[place] : place);
        }

        private int figureAt(int place) {
            int sign = at(signs, place);
            return isFigure(sign) ? sign - '0' : 0;
        }

        /** Which COLUMN the QUESTION is about, NONE if there is none, or more than one. */
        int onlyColumn() {
            int column = NONE;
            for (int place = 0; place < size; place++) {
                if (isLetter(signs[place])) {
                    if (column != NONE && column != signs[place] - 'a') {
                        return NONE;
                    }
                    column = signs[place] - 'a';
                }
            }
            return column;
        }
    }

    /**
     * What a QUESTION without a FAULT is of a ROW. It goes backwards over the signs, so that the
     * parts of a sign are known before the sign itself, and no recursion is needed.
     */
    private static final class RowJudge {
        private final Question question;
        private final int[] values;

        RowJudge(Question asked) {
            question = asked;
            values = new int[PAD];
        }

        int judge(int[] row) {
            for (int place = question.size - 1; place >= 0; place--) {
                if (question.roles[place] == TRUTH) {
                    values[place] = truthAt(place, row);
                } else if (question.roles[place] == TERM) {
                    values[place] = termAt(place, row);
                }
            }
            return values[0];
        }

        private int truthAt(int place, int[] row) {
            int sign = question.signs[place];
            if (sign == 'm') {
                int letter = at(question.signs, place + 1);
                return at(row, letter - 'a') == MISSING ? TRUE : FALSE;
            }
            int x = at(values, place + 1);
            if (sign == '!') {
                return notOf(x);
            }
            int y = at(values, question.seconds[place]);
            if (sign == '&') {
                return bothOf(x, y);
            }
            if (sign == '|') {
                return eitherOf(x, y);
            }
            if (x == ABSENT || y == ABSENT) {
                return UNSURE;
            }
            boolean holds = sign == '<' ? x < y : x == y;
            return holds ? TRUE : FALSE;
        }

        private int termAt(int place, int[] row) {
            int sign = question.signs[place];
            if (isLetter(sign)) {
                int value = at(row, sign - 'a');
                return value == MISSING ? ABSENT : value;
            }
            if (isFigure(sign) || sign == '#') {
                return question.numbers[place];
            }
            int x = at(values, place + 1);
            if (x == ABSENT) {
                return ABSENT;
            }
            if (sign == '~') {
                return -x;
            }
            if (sign == 'y') {
                return (byte) x;
            }
            if (sign == '%') {
                int divisor = question.numbers[place];
                return divisor < 1 ? 0 : x % divisor;
            }
            int y = at(values, question.seconds[place]);
            return y == ABSENT ? ABSENT : sumOf(sign, x, y);
        }
    }

    /**
     * What a QUESTION without a FAULT may be of a BLOCK that has ROWS, by RANGES alone. Each place
     * where a TRUTH begins has its MAY, each where a TERM begins its RANGE.
     */
    private static final class RangeJudge {
        final int[] kinds;
        final int[] lows;
        final int[] highs;
        private final Question question;

        RangeJudge(Question asked) {
            question = asked;
            kinds = new int[PAD];
            lows = new int[PAD];
            highs = new int[PAD];
        }

        void judge(Block block) {
            for (int place = question.size - 1; place >= 0; place--) {
                if (question.roles[place] == TRUTH) {
                    kinds[place] = chancesAt(place, block);
                } else if (question.roles[place] == TERM) {
                    kinds[place] = kindAt(place, block);
                    findBounds(place, block);
                }
            }
        }

        private int chancesAt(int place, Block block) {
            int sign = question.signs[place];
            if (sign == 'm') {
                return missingChances(at(question.signs, place + 1) - 'a', block);
            }
            int first = place + 1;
            int second = question.seconds[place];
            if (sign == '<' || sign == '=') {
                return comparedChances(sign, first, second);
            }
            if (sign == '!') {
                return notChances(at(kinds, first));
            }
            return joinedChances(sign, at(kinds, first), at(kinds, second));
        }

        private static int missingChances(int column, Block block) {
            if (!isColumn(column)) {
                return 0;
            }
            int missing = block.summaries[column].missing;
            int chance = missing > 0 ? MAY_BE_TRUE : 0;
            return missing < block.rows ? chance | MAY_BE_FALSE : chance;
        }

        private int comparedChances(int sign, int first, int second) {
            int kind = at(kinds, first);
            int kind2 = at(kinds, second);
            int chance = ((kind | kind2) & MAY_BE_MISSING) != 0 ? MAY_BE_UNSURE : 0;
            if ((kind & kind2 & MAY_BE_NUMBER) == 0) {
                return chance;
            }
            int low = at(lows, first);
            int high = at(highs, first);
            int low2 = at(lows, second);
            int high2 = at(highs, second);
            boolean canHold = sign == '<' ? low < high2 : low <= high2 && low2 <= high;
            boolean allOne = low == high && low == low2 && low == high2;
            boolean canFail = sign == '<' ? high >= low2 : !allOne;
            return chance | (canHold ? MAY_BE_TRUE : 0) | (canFail ? MAY_BE_FALSE : 0);
        }

        private static int notChances(int chance) {
            int made = 0;
            for (int x = FALSE; x <= UNSURE; x++) {
                if ((chance & chanceOf(x)) != 0) {
                    made |= chanceOf(notOf(x));
                }
            }
            return made;
        }

        private static int joinedChances(int sign, int chance, int chance2) {
            int made = 0;
            for (int x = FALSE; x <= UNSURE; x++) {
                for (int y = FALSE; y <= UNSURE; y++) {
                    if ((chance & chanceOf(x)) != 0 && (chance2 & chanceOf(y)) != 0) {
                        made |= chanceOf(sign == '&' ? bothOf(x, y) : eitherOf(x, y));
                    }
                }
            }
            return made;
        }

        private int kindAt(int place, Block block) {
            int sign = question.signs[place];
            if (isLetter(sign)) {
                int missing = block.summaries[sign - 'a'].missing;
                int kind = missing > 0 ? MAY_BE_MISSING : 0;
                return missing < block.rows ? kind | MAY_BE_NUMBER : kind;
            }
            if (isFigure(sign) || sign == '#') {
                return MAY_BE_NUMBER;
            }
            int kind = at(kinds, place + 1);
            if (!isSum(sign)) {
                return kind;
            }
            int kind2 = at(kinds, question.seconds[place]);
            return kind & kind2 & MAY_BE_NUMBER | (kind | kind2) & MAY_BE_MISSING;
        }

        private void findBounds(int place, Block block) {
            int sign = question.signs[place];
            if ((kinds[place] & MAY_BE_NUMBER) == 0) {
                setBounds(place, NONE, NONE);
                return;
            }
            if (isLetter(sign)) {
                Summary known = block.summaries[sign - 'a'];
                setBounds(place, known.least, known.greatest);
                return;
            }
            int low = at(lows, place + 1);
            int high = at(highs, place + 1);
            switch (sign) {
                case '~':
                    setBounds(place, -high, -low);
                    break;
                case 'y':
                    byteBounds(place, low, high);
                    break;
                case '%':
                    leftOverBounds(place, low, high, question.numbers[place]);
                    break;
                case '+':
                case '-':
                    sumBounds(place, sign, question.seconds[place]);
                    break;
                case '*':
                    productBounds(place, question.seconds[place]);
                    break;
                default:
                    setBounds(place, question.numbers[place], question.numbers[place]);
                    break;
            }
        }

        private void sumBounds(int place, int sign, int second) {
            int low2 = at(sign == '+' ? lows : highs, second);
            int high2 = at(sign == '+' ? highs : lows, second);
            setBounds(place, sumOf(sign, at(lows, place + 1), low2), sumOf(sign, at(highs, place + 1), high2));
        }

        private void productBounds(int place, int second) {
            int low = at(lows, place + 1);
            int high = at(highs, place + 1);
            int a = sumOf('*', low, at(lows, second));
            int b = sumOf('*', low, at(highs, second));
            int c = sumOf('*', high, at(lows, second));
            int d = sumOf('*', high, at(highs, second));
            int least = Math.min(Math.min(a, b), Math.min(c, d));
            int most = Math.max(Math.max(a, b), Math.max(c, d));
            setBounds(place, least, most);
        }

        private void byteBounds(int place, int low, int high) {
            int lowByte = (byte) low;
            int highByte = (byte) high;
            if (high - low < 256 && lowByte <= highByte) {
                setBounds(place, lowByte, highByte);
            } else {
                setBounds(place, -128, 127);
            }
        }

        private void leftOverBounds(int place, int low, int high, int divisor) {
            if (divisor < 1) {
                return;
            }
            boolean crossesZero = low < 0 && high > 0;
            if (low / divisor == high / divisor && !crossesZero) {
                setBounds(place, low % divisor, high % divisor);
                return;
            }
            int leastLeft = low >= 0 ? 0 : Math.max(low, 1 - divisor);
            int mostLeft = high <= 0 ? 0 : Math.min(high, divisor - 1);
            setBounds(place, leastLeft, mostLeft);
        }

        private void setBounds(int place, int low, int high) {
            lows[place] = low;
            highs[place] = high;
        }
    }

    /** Tells unlike ROWS apart: LIKE ROWS have one key. */
    private static final class RowKeys {
        int size;
        private final long[] keys;

        RowKeys() {
            keys = new long[BLOCKS * ROWS];
        }

        void clear() {
            size = 0;
        }

        void note(int[] row) {
            long key = 0;
            for (int column = 0; column < COLUMNS; column++) {
                key = key * 2000 + (at(row, column) - LEAST_NUMBER);
            }
            for (int i = 0; i < size; i++) {
                if (keys[i] == key) {
                    return;
                }
            }
            if (size < keys.length) {
                keys[size] = key;
                size++;
            }
        }
    }

    /** What MATCHES have in one COLUMN. */
    private static final class Tally {
        int least;
        int greatest;
        int sum;
        int missing;

        Tally() {
            clear();
        }

        void clear() {
            least = NONE;
            greatest = NONE;
            sum = 0;
            missing = 0;
        }

        void note(int value) {
            if (value == MISSING) {
                missing++;
                return;
            }
            least = least == NONE ? value : Math.min(least, value);
            greatest = greatest == NONE ? value : Math.max(greatest, value);
            sum += value;
        }
    }
}
