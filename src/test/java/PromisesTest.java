/** For each promise of the document: ordinary inputs, the edges it names, and wrong inputs. */
public final class PromisesTest {
    private static final int BAD_ARG = FuzzyTypeahead.BAD_ARG;
    private static final int FULL = FuzzyTypeahead.FULL;
    private static final int NONE = FuzzyTypeahead.NONE;
    private static final int[] NO_LETTERS = {
        -1, 4, 5, -4, 100, Integer.MIN_VALUE, Integer.MAX_VALUE, 1 << 16, -5
    };
    private static final int[] NO_WEIGHTS = {
        -1, 100, 101, -99, Integer.MIN_VALUE, Integer.MAX_VALUE, 1 << 16
    };
    private static final int[] NO_RANKS = {
        -1, -2, NONE, 12, 13, Integer.MIN_VALUE, Integer.MAX_VALUE
    };

    private static String promise = "";
    private static int wrong = 0;

    public static void main(String[] args) {
        constants();
        newObject();
        draft();
        scrap();
        add();
        remove();
        weight();
        words();
        type();
        backspace();
        reset();
        length();
        offered();
        offer();
        distance();
        weightAt();
        nearest();
        exact();
        continues();
        System.out.println(wrong == 0 ? "all promises hold" : wrong + " answers are not as due");
        if (wrong != 0) {
            System.exit(1);
        }
    }

    private static void due(String call, int got, int want) {
        if (got != want) {
            wrong++;
            System.out.println(promise + ": " + call + " answered " + got + ", due is " + want);
        }
    }

    private static void draftAll(FuzzyTypeahead x, String letters) {
        for (int i = 0; i < letters.length(); i++) {
            due("draft of " + letters, x.draft(letters.charAt(i) - '0'), i + 1);
        }
    }

    private static void addWord(FuzzyTypeahead x, String letters, int weight) {
        draftAll(x, letters);
        due("add of new " + letters, x.add(weight), 1);
    }

    private static void query(FuzzyTypeahead x, String letters) {
        x.reset();
        for (int i = 0; i < letters.length(); i++) {
            due("type of " + letters, x.type(letters.charAt(i) - '0'), i + 1);
        }
    }

    private static int code(String letters) {
        int code = 0;
        for (int i = 0; i < letters.length(); i++) {
            code = code * 5 + (letters.charAt(i) - '0') + 1;
        }
        return code;
    }

    /** The offered words, in their ranks, are these and no others. */
    private static void dueOffers(FuzzyTypeahead x, String... words) {
        due("offered()", x.offered(), words.length);
        for (int r = 0; r < words.length; r++) {
            due("offer(" + r + ")", x.offer(r), code(words[r]));
        }
        due("offer after the last", x.offer(words.length), NONE);
    }

    /** 12 words: 00, 01, .. 23, with the weights 0, 1, .. 11. */
    private static FuzzyTypeahead fullDictionary(int limit) {
        FuzzyTypeahead x = new FuzzyTypeahead(limit);
        for (int i = 0; i < 12; i++) {
            addWord(x, "" + i / 4 + i % 4, i);
        }
        return x;
    }

    private static void constants() {
        promise = "constants";
        due("BAD_ARG", BAD_ARG, -1);
        due("FULL", FULL, -2);
        due("NONE", NONE, -4);
    }

    private static void newObject() {
        promise = "1 new object";
        int[] limits = {0, 1, 2, 3, -1, 4, Integer.MIN_VALUE, Integer.MAX_VALUE};
        int[] becomes = {0, 1, 2, 3, 0, 3, 0, 3};
        for (int i = 0; i < limits.length; i++) {
            FuzzyTypeahead x = new FuzzyTypeahead(limits[i]);
            due("words()", x.words(), 0);
            due("length()", x.length(), 0);
            due("weight()", x.weight(), NONE);
            due("remove()", x.remove(), BAD_ARG);
            due("add(1)", x.add(1), BAD_ARG);
            due("backspace()", x.backspace(), NONE);
            dueOffers(x);
            due("nearest()", x.nearest(), NONE);
            due("exact()", x.exact(), 0);
            due("continues()", x.continues(), 0);
            addWord(x, "000000", 1);
            for (int far = 0; far <= 6; far++) {
                query(x, "111111".substring(0, far));
                due("offered() at " + far + " of limit " + limits[i],
                    x.offered(), far <= becomes[i] ? 1 : 0);
                query(x, "000000".substring(far));
                due("nearest() at " + far + " of limit " + limits[i],
                    x.nearest(), far <= becomes[i] ? far : NONE);
            }
        }
        FuzzyTypeahead one = new FuzzyTypeahead(1);
        FuzzyTypeahead two = new FuzzyTypeahead(2);
        addWord(one, "0", 1);
        one.type(2);
        one.draft(0);
        due("another object's words()", two.words(), 0);
        due("another object's length()", two.length(), 0);
        due("another object's draft", two.draft(0), 1);
    }

    private static void draft() {
        promise = "2 draft";
        FuzzyTypeahead x = new FuzzyTypeahead(1);
        for (int c : NO_LETTERS) {
            due("draft(" + c + ") on empty", x.draft(c), BAD_ARG);
        }
        draftAll(x, "0123");
        for (int c : NO_LETTERS) {
            due("draft(" + c + ")", x.draft(c), BAD_ARG);
        }
        due("draft(3)", x.draft(3), 5);
        due("draft(0)", x.draft(0), 6);
        for (int c = 0; c <= 3; c++) {
            due("draft(" + c + ") on six", x.draft(c), FULL);
        }
        for (int c : NO_LETTERS) {
            due("draft(" + c + ") on six", x.draft(c), BAD_ARG);
        }
        due("length() after drafts", x.length(), 0);
        due("words() after drafts", x.words(), 0);
        due("add(7)", x.add(7), 1);
        due("offer(0)", x.offer(0), code("012330"));
    }

    private static void scrap() {
        promise = "3 scrap";
        FuzzyTypeahead x = new FuzzyTypeahead(1);
        x.scrap();
        due("add(1) after scrap of empty", x.add(1), BAD_ARG);
        addWord(x, "12", 8);
        x.type(1);
        draftAll(x, "333333");
        x.scrap();
        due("add(1) after scrap", x.add(1), BAD_ARG);
        due("remove() after scrap", x.remove(), BAD_ARG);
        due("words()", x.words(), 1);
        due("length()", x.length(), 1);
        draftAll(x, "12");
        due("weight()", x.weight(), 8);
    }

    private static void add() {
        promise = "4 add";
        FuzzyTypeahead x = new FuzzyTypeahead(3);
        for (int w : NO_WEIGHTS) {
            due("add(" + w + ") of nothing", x.add(w), BAD_ARG);
        }
        due("add(5) of nothing", x.add(5), BAD_ARG);
        draftAll(x, "01");
        for (int w : NO_WEIGHTS) {
            due("add(" + w + ")", x.add(w), BAD_ARG);
        }
        due("words()", x.words(), 0);
        due("draft(2) after refused adds", x.draft(2), 3);
        due("add(0)", x.add(0), 1);
        due("add(0) again: draft is empty", x.add(0), BAD_ARG);
        due("offer(0)", x.offer(0), code("012"));
        due("weightAt(0)", x.weightAt(0), 0);
        draftAll(x, "012");
        due("add(99) of a word", x.add(99), 0);
        due("draft is empty after", x.remove(), BAD_ARG);
        due("words()", x.words(), 1);
        due("weightAt(0)", x.weightAt(0), 99);
        draftAll(x, "012");
        due("add(100) of a word", x.add(100), BAD_ARG);
        due("weight() after refused add", x.weight(), 99);
        x.scrap();
        addWord(x, "01", 3);
        addWord(x, "0120", 4);
        addWord(x, "12", 5);
        due("words()", x.words(), 4);
        addToFull();
    }

    private static void addToFull() {
        FuzzyTypeahead x = fullDictionary(3);
        draftAll(x, "3");
        due("add(1) of a 13th", x.add(1), FULL);
        due("add(100) of a 13th", x.add(100), BAD_ARG);
        due("words()", x.words(), 12);
        due("draft(3) after FULL", x.draft(3), 2);
        x.scrap();
        due("add(1) of nothing to 12", x.add(1), BAD_ARG);
        draftAll(x, "23");
        due("add(55) of the 12th again", x.add(55), 0);
        draftAll(x, "00");
        due("add(56) of the first again", x.add(56), 0);
        due("weightAt(0)", x.weightAt(0), 56);
        due("weightAt(1)", x.weightAt(1), 55);
        draftAll(x, "11");
        due("remove()", x.remove(), 5);
        addWord(x, "3", 98);
        due("offer(0)", x.offer(0), code("3"));
        due("words()", x.words(), 12);
    }

    private static void remove() {
        promise = "5 remove";
        FuzzyTypeahead x = fullDictionary(3);
        due("remove() of nothing", x.remove(), BAD_ARG);
        draftAll(x, "1");
        due("remove() of a beginning", x.remove(), NONE);
        due("draft(1) after NONE", x.draft(1), 2);
        due("draft(1) after NONE", x.draft(1), 3);
        due("remove() of a longer one", x.remove(), NONE);
        due("words()", x.words(), 12);
        x.scrap();
        String[] order = {"11", "00", "23", "22", "01", "02", "03", "10", "12", "21", "13", "20"};
        for (int i = 0; i < order.length; i++) {
            int number = (order[i].charAt(0) - '0') * 4 + order[i].charAt(1) - '0';
            draftAll(x, order[i]);
            due("remove() of " + order[i], x.remove(), number);
            due("draft is empty after", x.remove(), BAD_ARG);
            due("words()", x.words(), 11 - i);
            draftAll(x, order[i]);
            due("weight() of the removed " + order[i], x.weight(), NONE);
            due("remove() of the removed " + order[i], x.remove(), NONE);
            x.scrap();
            for (int k = i + 1; k < order.length; k++) {
                draftAll(x, order[k]);
                int kept = (order[k].charAt(0) - '0') * 4 + order[k].charAt(1) - '0';
                due("weight() of the kept " + order[k], x.weight(), kept);
                x.scrap();
            }
        }
        dueOffers(x);
        due("exact()", x.exact(), 0);
        due("continues()", x.continues(), 0);
        due("nearest()", x.nearest(), NONE);
        addWord(x, "11", 44);
        draftAll(x, "11");
        due("remove() of one added again", x.remove(), 44);
    }

    private static void weight() {
        promise = "6 weight";
        FuzzyTypeahead x = new FuzzyTypeahead(0);
        due("weight() of nothing, no words", x.weight(), NONE);
        addWord(x, "01", 0);
        addWord(x, "012", 99);
        addWord(x, "10", 7);
        due("weight() of nothing", x.weight(), NONE);
        due("draft(0)", x.draft(0), 1);
        due("weight() of 0", x.weight(), NONE);
        due("draft(1)", x.draft(1), 2);
        due("weight() of 01", x.weight(), 0);
        due("draft(2)", x.draft(2), 3);
        due("weight() of 012", x.weight(), 99);
        due("weight() of 012 again", x.weight(), 99);
        due("draft(3)", x.draft(3), 4);
        due("weight() of 0123", x.weight(), NONE);
        due("draft stays", x.draft(3), 5);
        x.scrap();
        draftAll(x, "10");
        due("weight() of 10", x.weight(), 7);
        due("draft stays", x.remove(), 7);
    }

    private static void words() {
        promise = "7 words";
        FuzzyTypeahead x = new FuzzyTypeahead(0);
        due("words()", x.words(), 0);
        addWord(x, "0", 1);
        due("words()", x.words(), 1);
        addWord(x, "000000", 1);
        due("words()", x.words(), 2);
        draftAll(x, "0");
        due("add(2) again", x.add(2), 0);
        due("words()", x.words(), 2);
        x.type(3);
        due("words() whatever the query", x.words(), 2);
        draftAll(x, "0");
        x.remove();
        due("words()", x.words(), 1);
        due("words() of a full one", fullDictionary(0).words(), 12);
    }

    private static void type() {
        promise = "8 type";
        FuzzyTypeahead x = new FuzzyTypeahead(0);
        addWord(x, "012330", 1);
        for (int c : NO_LETTERS) {
            due("type(" + c + ") on empty", x.type(c), BAD_ARG);
        }
        query(x, "0123");
        for (int c : NO_LETTERS) {
            due("type(" + c + ")", x.type(c), BAD_ARG);
        }
        due("type(3)", x.type(3), 5);
        due("type(0)", x.type(0), 6);
        for (int c = 0; c <= 3; c++) {
            due("type(" + c + ") on six", x.type(c), FULL);
        }
        for (int c : NO_LETTERS) {
            due("type(" + c + ") on six", x.type(c), BAD_ARG);
        }
        due("length()", x.length(), 6);
        due("nearest()", x.nearest(), 0);
        due("draft is as it was", x.remove(), BAD_ARG);
    }

    private static void backspace() {
        promise = "9 backspace";
        FuzzyTypeahead x = new FuzzyTypeahead(0);
        due("backspace() of nothing", x.backspace(), NONE);
        addWord(x, "0123", 1);
        draftAll(x, "0");
        query(x, "301203");
        int[] letters = {3, 0, 2, 1, 0, 3};
        for (int i = 0; i < letters.length; i++) {
            due("backspace()", x.backspace(), letters[i]);
            due("length()", x.length(), 5 - i);
        }
        due("backspace() of nothing", x.backspace(), NONE);
        due("backspace() of nothing", x.backspace(), NONE);
        due("length()", x.length(), 0);
        due("type(0)", x.type(0), 1);
        due("type(3)", x.type(3), 2);
        due("backspace()", x.backspace(), 3);
        due("type(1)", x.type(1), 2);
        due("continues()", x.continues(), 4);
        due("draft is as it was", x.draft(0), 2);
    }

    private static void reset() {
        promise = "10 reset";
        FuzzyTypeahead x = new FuzzyTypeahead(0);
        x.reset();
        due("length() after reset of empty", x.length(), 0);
        addWord(x, "01", 6);
        draftAll(x, "01");
        query(x, "333333");
        dueOffers(x);
        x.reset();
        due("length()", x.length(), 0);
        due("backspace()", x.backspace(), NONE);
        dueOffers(x, "01");
        due("draft is as it was", x.weight(), 6);
        due("words() is as it was", x.words(), 1);
        due("type(0)", x.type(0), 1);
        due("exact()", x.exact(), 1);
    }

    private static void length() {
        promise = "11 length";
        FuzzyTypeahead x = new FuzzyTypeahead(0);
        due("length()", x.length(), 0);
        for (int i = 1; i <= 6; i++) {
            x.type(i % 2 * 3);
            due("length()", x.length(), i);
        }
        x.type(0);
        x.type(4);
        due("length() after refused ones", x.length(), 6);
        x.backspace();
        due("length()", x.length(), 5);
        x.draft(0);
        due("length() after draft", x.length(), 5);
        x.reset();
        due("length()", x.length(), 0);
    }

    private static void offered() {
        promise = "12 offered";
        due("offered() of 12", fullDictionary(0).offered(), 12);
        // The least edit distances of the query 0123 to beginnings of the words.
        String[] words = {"0123", "012330", "123", "01023", "0", "1", "333333", "22"};
        int[] reaches = {0, 0, 1, 1, 3, 3, 3, 3};
        for (int limit = 0; limit <= 3; limit++) {
            FuzzyTypeahead x = new FuzzyTypeahead(limit);
            int want = 0;
            for (int i = 0; i < words.length; i++) {
                addWord(x, words[i], 1);
                query(x, "0123");
                want += reaches[i] <= limit ? 1 : 0;
                due("offered() with " + words[i] + ", limit " + limit, x.offered(), want);
            }
            x.reset();
            due("offered() to the empty query", x.offered(), words.length);
            query(x, "321321");
            due("offered() to 321321", x.offered(), 0);
        }
    }

    private static void offer() {
        promise = "13 offer";
        FuzzyTypeahead x = new FuzzyTypeahead(1);
        due("offer(0) of nothing", x.offer(0), NONE);
        String[] words = {"11", "1", "03", "000000", "0", "33", "10", "020", "02", "0000"};
        for (String word : words) {
            addWord(x, word, 5);
        }
        dueOffers(x, "0", "0000", "000000", "02", "020", "03", "1", "10", "11", "33");
        for (int r : NO_RANKS) {
            due("offer(" + r + ")", x.offer(r), NONE);
        }
        draftAll(x, "33");
        x.add(6);
        draftAll(x, "0");
        x.add(4);
        dueOffers(x, "33", "0000", "000000", "02", "020", "03", "1", "10", "11", "0");
        query(x, "1");
        dueOffers(x, "1", "10", "11", "33", "0000", "000000", "02", "020", "03", "0");
        query(x, "02");
        dueOffers(x, "02", "020", "0000", "000000", "03", "0");
        due("offer(0) again", x.offer(0), code("02"));
        draftAll(x, "02");
        x.remove();
        dueOffers(x, "020", "0000", "000000", "03", "0");
        query(x, "222222");
        dueOffers(x);
        due("words() is as it was", x.words(), 9);
        due("length() is as it was", x.length(), 6);
        FuzzyTypeahead y = new FuzzyTypeahead(0);
        addWord(y, "333333", 0);
        addWord(y, "33333", 0);
        addWord(y, "033333", 0);
        addWord(y, "1", 0);
        addWord(y, "0", 0);
        dueOffers(y, "0", "033333", "1", "33333", "333333");
        due("code of 333333", y.offer(4), 15624);
    }

    private static void distance() {
        promise = "14 distance";
        FuzzyTypeahead x = new FuzzyTypeahead(3);
        due("distance(0) of nothing", x.distance(0), NONE);
        addWord(x, "0123", 10);
        // Each query's reach distance to 0123: equal, wrong, missing and extra letters.
        String[] queries = {
            "", "0", "012", "0123", "1", "013", "023", "123", "0023", "01230", "012300",
            "32", "3012", "10", "1032", "22", "0213", "300123", "321", "3333", "33333"
        };
        int[] reaches = {0, 0, 0, 0, 1, 1, 1, 1, 1, 1, 2, 2, 1, 1, 2, 2, 2, 2, 2, 3, NONE};
        for (int i = 0; i < queries.length; i++) {
            query(x, queries[i]);
            due("distance(0) from " + queries[i], x.distance(0), reaches[i]);
        }
        addWord(x, "333333", 10);
        addWord(x, "32", 90);
        query(x, "333");
        int[] ranked = {0, 2, 3};
        for (int r = 0; r < ranked.length; r++) {
            due("distance(" + r + ")", x.distance(r), ranked[r]);
        }
        due("distance(3)", x.distance(3), NONE);
        for (int r : NO_RANKS) {
            due("distance(" + r + ")", x.distance(r), NONE);
        }
    }

    private static void weightAt() {
        promise = "15 weightAt";
        FuzzyTypeahead x = new FuzzyTypeahead(1);
        due("weightAt(0) of nothing", x.weightAt(0), NONE);
        addWord(x, "01", 0);
        addWord(x, "02", 99);
        addWord(x, "3", 50);
        due("weightAt(0)", x.weightAt(0), 99);
        due("weightAt(1)", x.weightAt(1), 50);
        due("weightAt(2)", x.weightAt(2), 0);
        due("weightAt(3)", x.weightAt(3), NONE);
        for (int r : NO_RANKS) {
            due("weightAt(" + r + ")", x.weightAt(r), NONE);
        }
        query(x, "01");
        due("weightAt(0)", x.weightAt(0), 0);
        due("weightAt(1)", x.weightAt(1), 99);
        due("weightAt(2)", x.weightAt(2), NONE);
        draftAll(x, "02");
        x.add(12);
        due("weightAt(1)", x.weightAt(1), 12);
    }

    private static void nearest() {
        promise = "16 nearest";
        FuzzyTypeahead x = new FuzzyTypeahead(3);
        due("nearest() of nothing", x.nearest(), NONE);
        addWord(x, "012301", 1);
        due("nearest() to the empty query", x.nearest(), NONE);
        query(x, "01");
        due("nearest() to 01", x.nearest(), NONE);
        query(x, "012");
        due("nearest() to 012", x.nearest(), 3);
        query(x, "12301");
        due("nearest() to 12301", x.nearest(), 1);
        query(x, "112301");
        due("nearest() to 112301", x.nearest(), 1);
        query(x, "012301");
        due("nearest() to 012301", x.nearest(), 0);
        query(x, "123012");
        due("nearest() to 123012", x.nearest(), 2);
        addWord(x, "123", 1);
        due("nearest() to 123012, two words", x.nearest(), 2);
        query(x, "1230");
        due("nearest() to 1230", x.nearest(), 1);
        x.reset();
        due("nearest() to the empty query", x.nearest(), 3);
        FuzzyTypeahead y = new FuzzyTypeahead(0);
        addWord(y, "01", 1);
        query(y, "0");
        due("nearest() to 0 of limit 0", y.nearest(), NONE);
        query(y, "01");
        due("nearest() to 01 of limit 0", y.nearest(), 0);
        query(y, "010");
        due("nearest() to 010 of limit 0", y.nearest(), NONE);
    }

    private static void exact() {
        promise = "17 exact";
        FuzzyTypeahead x = new FuzzyTypeahead(3);
        due("exact() of nothing", x.exact(), 0);
        String[] words = {"0", "01", "012", "012301", "1", "10", "3"};
        for (String word : words) {
            addWord(x, word, 1);
        }
        String[] queries = {"", "0", "01", "012", "0123", "01230", "012301", "1", "2", "3", "30", "12"};
        int[] sums = {7, 4, 3, 2, 1, 1, 1, 2, 0, 1, 0, 0};
        for (int i = 0; i < queries.length; i++) {
            query(x, queries[i]);
            due("exact() of " + queries[i], x.exact(), sums[i]);
        }
    }

    private static void continues() {
        promise = "18 continues";
        FuzzyTypeahead x = new FuzzyTypeahead(3);
        due("continues() of nothing", x.continues(), 0);
        String[] words = {"0", "01", "02", "0233", "0213", "0200", "300000", "2", "22"};
        for (String word : words) {
            addWord(x, word, 0);
        }
        String[] queries = {"", "0", "01", "02", "021", "0213", "3", "30000", "300000", "1", "2", "22"};
        int[] sets = {13, 6, 0, 11, 8, 0, 1, 1, 0, 0, 4, 0};
        for (int i = 0; i < queries.length; i++) {
            query(x, queries[i]);
            due("continues() of " + queries[i], x.continues(), sets[i]);
        }
        addWord(x, "1", 0);
        x.reset();
        due("continues() of all four", x.continues(), 15);
    }
}
