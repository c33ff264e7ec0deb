/**
 * Words of a small dictionary offered while a query is typed, also where the query has a few
 * wrong, missing or extra letters.
 *
 * Every list of letters (a word, the query, the draft) is held as its code: a number in base
 * five whose digits, the first letter's on the left, are the letters plus one. No digit is 0, so
 * different lists have different codes, 0 is the empty list, and a division by five takes the
 * last letter off.
 */
public final class FuzzyTypeahead {
    /** An argument is out of its range, or the draft is empty. */
    public static final int BAD_ARG = -1;
    /** A limit is reached. */
    public static final int FULL = -2;
    /** There is no such thing. */
    public static final int NONE = -4;

    private static final int EMPTY = 0;
    private static final int BASE = 5;
    private static final int LAST_LETTER = 3;
    private static final int MAX_LETTERS = 6;
    private static final int ROW_LENGTH = 7;
    private static final int MAX_WORDS = 12;
    private static final int MAX_WEIGHT = 99;
    private static final int MAX_LIMIT = 3;
    /** Five to the power of five: the smallest number of six digits. */
    private static final int SIX_DIGITS = 3125;

    /** What the letters of a word that are left when the query has ended cost, each. */
    private static final int REST_IS_FREE = 0;
    private static final int REST_COUNTS = 1;

    private final int limit;
    private int draftCode = EMPTY;
    private int queryCode = EMPTY;

    private int count = 0;
    private final int[] codes = new int[MAX_WORDS];
    private final int[] weights = new int[MAX_WORDS];

    /** Working space, filled anew by each call that reads it. */
    private final int[] reach = new int[MAX_WORDS];
    private final int[] row = new int[ROW_LENGTH];

    /** No word; query and draft are empty. */
    public FuzzyTypeahead(int limit) {
        this.limit = limit < 0 ? 0 : limit > MAX_LIMIT ? MAX_LIMIT : limit;
    }

    /** Appends letter c to the draft and answers its length; BAD_ARG, FULL. */
    public int draft(int c) {
        int answer = lengthWith(draftCode, c);
        if (answer > 0) {
            draftCode = append(draftCode, c);
        }
        return answer;
    }

    /** Empties the draft. */
    public void scrap() {
        draftCode = EMPTY;
    }

    /** Makes the draft a word (1), or gives the word it is a new weight (0); BAD_ARG, FULL. */
    public int add(int weight) {
        if (weight < 0 || weight > MAX_WEIGHT || draftCode == EMPTY) {
            return BAD_ARG;
        }
        int word = findDraft();
        if (word == NONE && count >= MAX_WORDS) {
            return FULL;
        }
        int answer = 0;
        if (word == NONE) {
            word = count;
            codes[word] = draftCode;
            count++;
            answer = 1;
        }
        weights[word] = weight;
        draftCode = EMPTY;
        return answer;
    }

    /** Takes the draft's letters out of the dictionary and answers their weight; BAD_ARG, NONE. */
    public int remove() {
        if (draftCode == EMPTY) {
            return BAD_ARG;
        }
        int word = findDraft();
        if (word == NONE) {
            return NONE;
        }
        int answer = weights[word];
        // The order inside the arrays tells nothing, so the last word may fill the gap.
        count--;
        codes[word] = codes[count];
        weights[word] = weights[count];
        draftCode = EMPTY;
        return answer;
    }

    /** The weight of the draft's letters as a word; NONE. */
    public int weight() {
        int word = findDraft();
        return word == NONE ? NONE : weights[word];
    }

    /** The number of words. */
    public int words() {
        return count;
    }

    /** Appends letter c to the query and answers its length; BAD_ARG, FULL. */
    public int type(int c) {
        int answer = lengthWith(queryCode, c);
        if (answer > 0) {
            queryCode = append(queryCode, c);
        }
        return answer;
    }

    /** Takes the last letter off the query and answers it; NONE. */
    public int backspace() {
        if (queryCode == EMPTY) {
            return NONE;
        }
        int letter = lastLetter(queryCode);
        queryCode = queryCode / BASE;
        return letter;
    }

    /** Empties the query. */
    public void reset() {
        queryCode = EMPTY;
    }

    /** The length of the query. */
    public int length() {
        return lengthOf(queryCode);
    }

    /** How many words are offered. */
    public int offered() {
        measureReach();
        int sum = 0;
        for (int word = 0; word < count; word++) {
            if (reach[word] <= limit) {
                sum++;
            }
        }
        return sum;
    }

    /** The code of the word at rank r of those offered; NONE. */
    public int offer(int r) {
        int word = wordAtRank(r);
        return word == NONE ? NONE : codes[word];
    }

    /** The reach distance of the word at rank r of those offered; NONE. */
    public int distance(int r) {
        int word = wordAtRank(r);
        return word == NONE ? NONE : reach[word];
    }

    /** The weight of the word at rank r of those offered; NONE. */
    public int weightAt(int r) {
        int word = wordAtRank(r);
        return word == NONE ? NONE : weights[word];
    }

    /** The least edit distance between the whole query and a whole word, if at most K; NONE. */
    public int nearest() {
        int least = limit + 1;
        for (int word = 0; word < count; word++) {
            int edits = queryDistance(codes[word], REST_COUNTS);
            if (edits < least) {
                least = edits;
            }
        }
        return least > limit ? NONE : least;
    }

    /** How many words the query itself is a beginning of. */
    public int exact() {
        int sum = 0;
        for (int word = 0; word < count; word++) {
            if (beginsWithQuery(codes[word])) {
                sum++;
            }
        }
        return sum;
    }

    /** The letters that may follow the query in a word, as the sum of 2 to the power of each. */
    public int continues() {
        int letters = 0;
        for (int word = 0; word < count; word++) {
            letters |= letterAfterQuery(codes[word]);
        }
        return letters;
    }

    /** The length that the list has with c appended, or the code that refuses it. */
    private static int lengthWith(int code, int c) {
        if (c < 0 || c > LAST_LETTER) {
            return BAD_ARG;
        }
        int length = lengthOf(code);
        return length >= MAX_LETTERS ? FULL : length + 1;
    }

    private static int append(int code, int c) {
        return code * BASE + c + 1;
    }

    private static int lastLetter(int code) {
        return code % BASE - 1;
    }

    private static int lengthOf(int code) {
        int rest = code;
        int length = 0;
        while (length < MAX_LETTERS && rest != EMPTY) {
            rest = rest / BASE;
            length++;
        }
        return length;
    }

    /** Where in the dictionary the draft is; NONE. */
    private int findDraft() {
        for (int word = 0; word < count; word++) {
            if (codes[word] == draftCode) {
                return word;
            }
        }
        return NONE;
    }

    private void measureReach() {
        for (int word = 0; word < count; word++) {
            reach[word] = queryDistance(codes[word], REST_IS_FREE);
        }
    }

    /** Where in the dictionary the word at rank r is; NONE. Leaves reach measured. */
    private int wordAtRank(int r) {
        measureReach();
        for (int word = 0; word < count; word++) {
            if (reach[word] <= limit && rankOf(word) == r) {
                return word;
            }
        }
        return NONE;
    }

    /** The rank of an offered word: whatever comes before it reaches as near, so is offered too. */
    private int rankOf(int word) {
        int rank = 0;
        for (int other = 0; other < count; other++) {
            if (comesBefore(other, word)) {
                rank++;
            }
        }
        return rank;
    }

    private boolean comesBefore(int one, int two) {
        if (reach[one] != reach[two]) {
            return reach[one] < reach[two];
        }
        if (weights[one] != weights[two]) {
            return weights[one] > weights[two];
        }
        int placeOfOne = alphabeticPlace(codes[one]);
        int placeOfTwo = alphabeticPlace(codes[two]);
        return placeOfOne < placeOfTwo;
    }

    /**
     * A number that grows in the order of a dictionary: the code filled up to six digits with
     * zeros, which are smaller than every letter's digit, as the end of a word is.
     */
    private static int alphabeticPlace(int code) {
        int place = code;
        for (int n = 0; n < MAX_LETTERS && place < SIX_DIGITS; n++) {
            place = place * BASE;
        }
        return place;
    }

    /**
     * The least number of steps between the query and the word, where each letter of the word
     * that stands after the query's end costs restCost: with 0 this is the reach distance, with
     * 1 the edit distance. It goes from the ends of both lists to their starts, since a code
     * gives its last letter first.
     */
    private int queryDistance(int code, int restCost) {
        for (int n = 0; n < ROW_LENGTH; n++) {
            row[n] = n;
        }
        int rest = code;
        for (int taken = 1; taken <= MAX_LETTERS && rest != EMPTY; taken++) {
            extendRow(rest % BASE, taken * restCost);
            rest = rest / BASE;
        }
        int whole = lengthOf(queryCode);
        return row[whole];
    }

    /**
     * row[n] is the distance between the last n letters of the query and the letters of the word
     * that have been taken so far; this takes one letter more, given by its digit.
     */
    private void extendRow(int digit, int withoutQuery) {
        int diagonal = row[0];
        row[0] = withoutQuery;
        int rest = queryCode;
        for (int n = 1; n < ROW_LENGTH && rest != EMPTY; n++) {
            int above = row[n];
            int least = rest % BASE == digit ? diagonal : diagonal + 1;
            if (above + 1 < least) {
                least = above + 1;
            }
            if (row[n - 1] + 1 < least) {
                least = row[n - 1] + 1;
            }
            row[n] = least;
            diagonal = above;
            rest = rest / BASE;
        }
    }

    private boolean beginsWithQuery(int code) {
        int rest = code;
        for (int n = 0; n < MAX_LETTERS && rest > queryCode; n++) {
            rest = rest / BASE;
        }
        return rest == queryCode;
    }

    /** 2 to the power of the letter that follows the query in the word; 0 if none does. */
    private int letterAfterQuery(int code) {
        int rest = code;
        for (int n = 0; n < MAX_LETTERS && rest != EMPTY; n++) {
            if (rest / BASE == queryCode) {
                return 1 << lastLetter(rest);
            }
            rest = rest / BASE;
        }
        return 0;
    }
}
