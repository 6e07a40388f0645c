/**
 * A sorted table of short words with values, with questions on order and on beginnings.
 *
 * The held words stand in the document's order, so the words that share a beginning
 * always stand side by side: a question on a beginning is a question on a range.
 */
public final class LayeredTree {
    private static final int CAPACITY = 40;
    private static final int LETTER_BITS = 3;
    private static final int MOST_LETTERS = 6;
    private static final int EMPTY_ROW = 1;
    private static final int LEAST_LONGEST_WORD = 1 << (LETTER_BITS * MOST_LETTERS);
    private static final int PLAN_BASE = 32;
    private static final int MOST_STEP = 1000;
    private static final int MOST_SOWN = 30;

    private final int[] words = new int[CAPACITY];
    private final int[] values = new int[CAPACITY];
    private int held;

    public LayeredTree() {
        held = 0;
    }

    public int put(int word, int value) {
        if (!isWord(word)) {
            return -1;
        }
        int place = placeOf(word);
        if (isHeldAt(place, word)) {
            values[place] = value;
            return 0;
        }
        if (held >= CAPACITY) {
            return -2;
        }
        insertAt(place, word, value);
        return 1;
    }

    public int remove(int word) {
        if (!isWord(word)) {
            return -1;
        }
        int place = placeOf(word);
        if (!isHeldAt(place, word)) {
            return -2;
        }
        cutOut(place, place + 1);
        return 0;
    }

    public int clear(int row) {
        if (!isRow(row)) {
            return -1;
        }
        int start = placeOf(row);
        int end = endOfRange(row, start);
        cutOut(start, end);
        return end - start;
    }

    public int sow(int word, int plan, int value) {
        if (!isWord(word)) {
            return -1;
        }
        // A negative plan gives a step of 0 or less here, so it needs no test of its own.
        int step = plan / PLAN_BASE;
        int times = plan % PLAN_BASE;
        if (step < 1 || step > MOST_STEP) {
            return -2;
        }
        if (times < 1 || times > MOST_SOWN) {
            return -3;
        }
        for (int k = 0; k < times; k++) {
            // put refuses just the numbers that are to be left out, so its answer isn't needed.
            put(word + k * step, value + k);
        }
        return held;
    }

    public int size() {
        return held;
    }

    public int has(int word) {
        if (!isWord(word)) {
            return -1;
        }
        int place = placeOf(word);
        return isHeldAt(place, word) ? 1 : 0;
    }

    public int get(int word) {
        if (!isWord(word)) {
            return 0;
        }
        int place = placeOf(word);
        return isHeldAt(place, word) ? values[place] : 0;
    }

    public int first() {
        return wordAt(0, -1);
    }

    public int last() {
        return wordAt(held - 1, -1);
    }

    public int next(int word) {
        if (!isWord(word)) {
            return -1;
        }
        int place = placeOf(word);
        if (isHeldAt(place, word)) {
            place++;
        }
        return wordAt(place, -2);
    }

    public int previous(int word) {
        if (!isWord(word)) {
            return -1;
        }
        int place = placeOf(word);
        return wordAt(place - 1, -2);
    }

    public int rank(int word) {
        if (!isWord(word)) {
            return -1;
        }
        return placeOf(word);
    }

    public int select(int k) {
        return wordAt(k, -1);
    }

    public int count(int row) {
        if (!isRow(row)) {
            return -1;
        }
        int start = placeOf(row);
        return endOfRange(row, start) - start;
    }

    public int sum(int row) {
        if (!isRow(row)) {
            return 0;
        }
        int start = placeOf(row);
        int end = endOfRange(row, start);
        int total = 0;
        for (int i = start; i < end; i++) {
            total += values[i];
        }
        return total;
    }

    public int longest(int word) {
        if (!isWord(word)) {
            return -1;
        }
        int beginning = word;
        for (int i = 0; i < MOST_LETTERS && beginning > EMPTY_ROW; i++) {
            int place = placeOf(beginning);
            if (isHeldAt(place, beginning)) {
                return beginning;
            }
            beginning = withoutLastLetter(beginning);
        }
        return -2;
    }

    public int common(int row) {
        if (!isRow(row)) {
            return -1;
        }
        int start = placeOf(row);
        int end = endOfRange(row, start);
        if (start >= end) {
            return -2;
        }
        // What the outermost words of a sorted range share, all between them share too.
        return sharedBeginning(words[start], words[end - 1]);
    }

    private static boolean isWord(int number) {
        for (int letters = 1; letters <= MOST_LETTERS; letters++) {
            int least = 1 << (LETTER_BITS * letters);
            if (number >= least && number < 2 * least) {
                return true;
            }
        }
        return false;
    }

    private static boolean isRow(int number) {
        return number == EMPTY_ROW || isWord(number);
    }

    private static int withoutLastLetter(int row) {
        return row >> LETTER_BITS;
    }

    /** A number that grows with the document's order; the row must be good. */
    private static int orderKey(int row) {
        int filled = row;
        int missing = 0;
        for (int i = 0; i < MOST_LETTERS && filled < LEAST_LONGEST_WORD; i++) {
            filled <<= LETTER_BITS;
            missing++;
        }
        // Letter 0 fills up short rows, so only the length parts a row from what it begins.
        return filled * (MOST_LETTERS + 1) + MOST_LETTERS - missing;
    }

    private static boolean isBeginning(int row, int word) {
        int rest = word;
        // Each cut makes rest smaller: once it is below row it can't become row any more.
        for (int i = 0; i < MOST_LETTERS && rest > row; i++) {
            rest = withoutLastLetter(rest);
        }
        return rest == row;
    }

    private static int sharedBeginning(int one, int other) {
        int left = one;
        int right = other;
        // The greater number is not the shorter row, so its last letter can't be shared.
        for (int i = 0; i < 2 * MOST_LETTERS && left != right; i++) {
            if (left > right) {
                left = withoutLastLetter(left);
            } else {
                right = withoutLastLetter(right);
            }
        }
        return left;
    }

    /** How many held words come before the row, which is where it stands or would stand. */
    private int placeOf(int row) {
        int key = orderKey(row);
        int place = 0;
        for (int i = 0; i < held; i++) {
            if (orderKey(words[i]) < key) {
                place++;
            }
        }
        return place;
    }

    private boolean isHeldAt(int place, int word) {
        return place < held && words[place] == word;
    }

    private int wordAt(int place, int ifNone) {
        return place >= 0 && place < held ? words[place] : ifNone;
    }

    /** The place behind the last word that the row begins; start is the row's own place. */
    private int endOfRange(int row, int start) {
        int end = start;
        for (int i = start; i < held && isBeginning(row, words[i]); i++) {
            end++;
        }
        return end;
    }

    private void insertAt(int place, int word, int value) {
        for (int i = held; i > place; i--) {
            words[i] = words[i - 1];
            values[i] = values[i - 1];
        }
        words[place] = word;
        values[place] = value;
        held++;
    }

    private void cutOut(int start, int end) {
        int kept = start;
        for (int i = end; i < held; i++) {
            words[kept] = words[i];
            values[kept] = values[i];
            kept++;
        }
        held = kept;
    }
}
