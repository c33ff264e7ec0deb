import java.util.ArrayList;
import java.util.LinkedHashMap;
import java.util.List;
import java.util.Map;
import java.util.function.Consumer;
import java.util.function.ToIntFunction;

/**
 * Each sentence of the document that names a boundary case, in the document's order, has a test
 * of its own here, named by its place and its words.
 *
 * Whether a refused call has changed something is found out with a twin that was not asked: both
 * are read out, with calls that change things too, and have to answer the same.
 */
public final class BoundaryTest {
    // Written as numbers, so that a constant with another value is found.
    private static final int BAD_ARG = -1;
    private static final int FULL = -2;
    private static final int NONE = -4;

    private static final int MIN = Integer.MIN_VALUE;
    private static final int MAX = Integer.MAX_VALUE;
    /** Besides the nearest ones, some that a cast or a mask would make a letter of. */
    private static final int[] NO_LETTERS = {-1, 4, 5, -2, -4, 256, 258, -254, 65537, MIN, MAX};
    private static final int[] NO_WEIGHTS = {-1, 100, -99, 101, 127, 128, 256, 65586, MIN, MAX};

    private static final String SEVEN = "012:5 0132:9 02:9 3121:7 123:2 0:0 333333:99";
    private static final String TWELVE = "0:0 01:99 012:50 0123:50 01230:1 012301:2"
        + " 3:3 3012:33 33:4 333333:5 21:98 20:98";
    /** Beginnings of words, words with a letter more, and words without one or with one wrong. */
    private static final String[] NO_WORDS_OF_TWELVE = {
        "30", "301", "333", "33333", "00", "32", "0120", "12301", "10", "1", "013", "012300"
    };
    private static final String TWELVE_BY_WEIGHT =
        "01 20 21 012 0123 3012 333333 33 3 012301 01230 0";

    /** Drafts of no letter to six, that are words, beginnings of words, and neither. */
    private static final State[] STATES = {
        new State(0, "", "", ""),
        new State(1, "", "0", "3"),
        new State(3, "", "333333", "000000"),
        new State(1, SEVEN, "", "012"),
        new State(2, SEVEN, "013", "01"),
        new State(3, SEVEN, "012301", "333333"),
        new State(0, SEVEN, "01", "013201"),
        new State(0, SEVEN, "333", ""),
        new State(2, TWELVE, "3", ""),
        new State(3, TWELVE, "0123", "301"),
        new State(1, TWELVE, "301230", "012301"),
        new State(3, TWELVE, "", "222222"),
        new State(0, TWELVE, "333333", "3"),
        new State(2, TWELVE, "", "33333"),
    };

    private static String sentence = "";
    private static int sentences = 0;
    private static int wrong = 0;

    /** What an object holds; a word and its weight are written 012:5. */
    private record State(int limit, String words, String query, String draft) {
        FuzzyTypeahead make() {
            FuzzyTypeahead x = new FuzzyTypeahead(limit);
            weights().forEach((word, weight) -> {
                draftAll(x, word);
                x.add(weight);
            });
            typeAll(x, query);
            draftAll(x, draft);
            return x;
        }

        Map<String, Integer> weights() {
            Map<String, Integer> weights = new LinkedHashMap<>();
            for (String entry : words.split(" ")) {
                if (!entry.isEmpty()) {
                    String[] parts = entry.split(":");
                    weights.put(parts[0], Integer.parseInt(parts[1]));
                }
            }
            return weights;
        }

        boolean draftIsWord() {
            return weights().containsKey(draft);
        }

        boolean isFull() {
            return weights().size() == 12;
        }

        State withQuery(String letters) {
            return new State(limit, words, letters, draft);
        }

        State withDraft(String letters) {
            return new State(limit, words, query, letters);
        }
    }

    public static void main(String[] args) {
        whatItIs();
        termsOfLists();
        termsOfDistances();
        termsOfRanks();
        termsOfCalls();
        newObject();
        draft();
        scrap();
        add();
        remove();
        weight();
        words();
        type();
        backspace();
        reset();
        length();
        offered();
        offer();
        distance();
        weightAt();
        nearest();
        exact();
        continues();
        System.out.println(wrong == 0
            ? "all " + sentences + " sentences hold" : wrong + " answers are not as due");
        if (wrong != 0) {
            System.exit(1);
        }
    }

    private static void test(String name, Runnable body) {
        sentence = name;
        sentences++;
        try {
            body.run();
        } catch (RuntimeException thrown) {
            wrong++;
            System.out.println(sentence + ": a call threw " + thrown);
        }
    }

    private static void due(String call, int got, int want) {
        if (got != want) {
            wrong++;
            System.out.println(sentence + ": " + call + " answered " + got + ", due is " + want);
        }
    }

    private static void draftAll(FuzzyTypeahead x, String letters) {
        for (char c : letters.toCharArray()) {
            x.draft(c - '0');
        }
    }

    private static void typeAll(FuzzyTypeahead x, String letters) {
        for (char c : letters.toCharArray()) {
            x.type(c - '0');
        }
    }

    private static int addWord(FuzzyTypeahead x, String letters, int weight) {
        x.scrap();
        draftAll(x, letters);
        return x.add(weight);
    }

    private static int removeWord(FuzzyTypeahead x, String letters) {
        x.scrap();
        draftAll(x, letters);
        return x.remove();
    }

    private static int weightOf(FuzzyTypeahead x, String letters) {
        x.scrap();
        draftAll(x, letters);
        return x.weight();
    }

    private static int code(String letters) {
        int code = 0;
        for (char c : letters.toCharArray()) {
            code = code * 5 + (c - '0') + 1;
        }
        return code;
    }

    /** The offered words are these, in this order, and no others. */
    private static void dueOffers(FuzzyTypeahead x, String words) {
        String[] ranked = words.isEmpty() ? new String[0] : words.split(" ");
        due("offered() for [" + words + "]", x.offered(), ranked.length);
        for (int r = 0; r < ranked.length; r++) {
            due("offer(" + r + ") for [" + words + "]", x.offer(r), code(ranked[r]));
        }
        due("offer(" + ranked.length + ")", x.offer(ranked.length), NONE);
    }

    private static void dueOffers(State state, String words) {
        dueOffers(state.make(), words);
    }

    /** Answers the code, and leaves all as it was. */
    private static void dueRefused(
            State state, String call, ToIntFunction<FuzzyTypeahead> made, int code) {
        due(call + " on " + state, made.applyAsInt(state.make()), code);
        dueState(state, call, made::applyAsInt, state);
    }

    /** After the call on the first state an object answers as one made in the second state. */
    private static void dueState(
            State before, String call, Consumer<FuzzyTypeahead> made, State after) {
        List<String> got = readOut(before, made, after);
        List<String> want = readOut(after, x -> { }, after);
        for (int i = 0; i < want.size(); i++) {
            if (!got.get(i).equals(want.get(i))) {
                wrong++;
                System.out.println(sentence + ": after " + call + " on " + before + " "
                    + got.get(i) + ", due is " + want.get(i));
                return;
            }
        }
    }

    /** All that calls tell about an object; each part that changes it gets an object anew. */
    private static List<String> readOut(
            State state, Consumer<FuzzyTypeahead> made, State expected) {
        List<String> answers = new ArrayList<>();
        FuzzyTypeahead x = after(state, made);
        look(x, answers);
        for (int i = 0; i < 7; i++) {
            answers.add("backspace() " + i + ": " + x.backspace());
        }
        look(x, answers);
        x = after(state, made);
        for (int i = 0; i < 7; i++) {
            answers.add("type(0) " + i + ": " + x.type(0));
        }
        readOutDraft(state, made, expected, answers);
        return answers;
    }

    private static void readOutDraft(
            State state, Consumer<FuzzyTypeahead> made, State expected, List<String> answers) {
        FuzzyTypeahead x = after(state, made);
        for (int i = 0; i < 7; i++) {
            answers.add("draft(0) " + i + ": " + x.draft(0));
        }
        x = after(state, made);
        answers.add("add(99): " + x.add(99));
        x.reset();
        look(x, answers);
        x = after(state, made);
        answers.add("remove(): " + x.remove());
        x.reset();
        look(x, answers);
        // In a full dictionary a draft shows only by the word that more letters make of it.
        for (String word : expected.weights().keySet()) {
            for (int i = 0; i < word.length(); i++) {
                x = after(state, made);
                draftAll(x, word.substring(i));
                answers.add("weight() with " + word.substring(i) + ": " + x.weight());
            }
        }
    }

    private static FuzzyTypeahead after(State state, Consumer<FuzzyTypeahead> made) {
        FuzzyTypeahead x = state.make();
        made.accept(x);
        return x;
    }

    /** The calls that change nothing. */
    private static void look(FuzzyTypeahead x, List<String> answers) {
        answers.add("words(): " + x.words());
        answers.add("length(): " + x.length());
        answers.add("weight(): " + x.weight());
        answers.add("offered(): " + x.offered());
        for (int r = -1; r <= 12; r++) {
            answers.add("offer(" + r + "): " + x.offer(r));
            answers.add("distance(" + r + "): " + x.distance(r));
            answers.add("weightAt(" + r + "): " + x.weightAt(r));
        }
        answers.add("nearest(): " + x.nearest());
        answers.add("exact(): " + x.exact());
        answers.add("continues(): " + x.continues());
    }

    // ---- What it is

    private static void whatItIs() {
        test("What it is, 'at most 512 calls': words come and go", () -> {
            FuzzyTypeahead x = new FuzzyTypeahead(0);
            // 128 rounds of four calls.
            for (int i = 0; i < 128; i++) {
                due("draft in round " + i, x.draft(i % 4), 1);
                due("add in round " + i, x.add(i % 100), 1);
                due("draft in round " + i, x.draft(i % 4), 1);
                due("remove in round " + i, x.remove(), i % 100);
            }
        });
        test("What it is, 'at most 512 calls': letters come and go", () -> {
            FuzzyTypeahead x = new FuzzyTypeahead(0);
            for (int i = 0; i < 256; i++) {
                due("type in round " + i, x.type(i % 4), 1);
                due("backspace in round " + i, x.backspace(), i % 4);
            }
        });
        test("What it is, 'at most 512 calls': the last one, after refused ones", () -> {
            FuzzyTypeahead x = new FuzzyTypeahead(3);
            // 1 + 1 + 1 + 508 + 1 calls.
            due("draft(3)", x.draft(3), 1);
            due("add(9)", x.add(9), 1);
            due("type(3)", x.type(3), 1);
            for (int i = 0; i < 127; i++) {
                due("draft(4)", x.draft(4), BAD_ARG);
                due("add(100)", x.add(100), BAD_ARG);
                due("type(-1)", x.type(-1), BAD_ARG);
                due("offer(1)", x.offer(1), NONE);
            }
            due("weightAt(0), the 512th call", x.weightAt(0), 9);
        });
    }

    // ---- Terms

    private static void termsOfLists() {
        test("Terms, 'LETTERS are 0 to 3'", () -> {
            for (int c = 0; c <= 3; c++) {
                FuzzyTypeahead x = new FuzzyTypeahead(0);
                due("draft(" + c + ")", x.draft(c), 1);
                due("add(1)", x.add(1), 1);
                due("type(" + c + ")", x.type(c), 1);
                due("offer(0)", x.offer(0), c + 1);
                due("backspace()", x.backspace(), c);
            }
            for (int c : new int[] {-1, 4}) {
                FuzzyTypeahead x = new FuzzyTypeahead(0);
                due("draft(" + c + ")", x.draft(c), BAD_ARG);
                due("type(" + c + ")", x.type(c), BAD_ARG);
            }
        });
        test("Terms, 'A WORD is a list of 1 to 6 letters'", () -> {
            FuzzyTypeahead x = new FuzzyTypeahead(0);
            due("add of no letters", x.add(1), BAD_ARG);
            String letters = "321032";
            for (int n = 1; n <= 6; n++) {
                due("add of " + n + " letters", addWord(x, letters.substring(0, n), n), 1);
            }
            dueOffers(x, "321032 32103 3210 321 32 3");
            typeAll(x, letters);
            dueOffers(x, "321032");
            due("nearest() of six letters", x.nearest(), 0);
            for (int n = 1; n <= 6; n++) {
                due("remove of " + n + " letters", removeWord(x, letters.substring(0, n)), n);
            }
        });
        test("Terms, 'at most 12 words'", () -> {
            FuzzyTypeahead x = new FuzzyTypeahead(0);
            for (int n = 0; n < 12; n++) {
                due("add of word " + (n + 1), addWord(x, n / 4 + "" + n % 4, 1), 1);
                due("words()", x.words(), n + 1);
            }
            due("add of word 13", addWord(x, "30", 1), FULL);
            due("words()", x.words(), 12);
        });
        test("Terms, 'all different': the same word again is no other one", () -> {
            FuzzyTypeahead x = new FuzzyTypeahead(0);
            due("add of 01", addWord(x, "01", 1), 1);
            due("add of 01 again", addWord(x, "01", 2), 0);
            due("words()", x.words(), 1);
            due("exact()", x.exact(), 1);
            dueOffers(x, "01");
            due("remove of 01", removeWord(x, "01"), 2);
            due("remove of 01 again", removeWord(x, "01"), NONE);
        });
        test("Terms, 'all different': words that differ only a little are different ones", () -> {
            FuzzyTypeahead x = new FuzzyTypeahead(0);
            String[] words = {"0", "00", "000", "0000", "00000", "000000", "000001", "100000",
                "01", "10", "1", "3"};
            for (int i = 0; i < words.length; i++) {
                due("add of " + words[i], addWord(x, words[i], i + 1), 1);
            }
            for (int i = 0; i < words.length; i++) {
                due("weight of " + words[i], weightOf(x, words[i]), i + 1);
            }
        });
        test("Terms, 'a WEIGHT, 0 to 99'", () -> {
            FuzzyTypeahead x = new FuzzyTypeahead(0);
            int[] weights = {0, 99};
            for (int weight : weights) {
                due("add(" + weight + ")", addWord(x, "2", weight), weight == 0 ? 1 : 0);
                due("weight()", weightOf(x, "2"), weight);
                due("weightAt(0)", x.weightAt(0), weight);
            }
            due("add(-1)", addWord(x, "2", -1), BAD_ARG);
            due("add(100)", addWord(x, "2", 100), BAD_ARG);
            due("remove()", removeWord(x, "2"), 99);
        });
        test("Terms, 'The QUERY is a list of 0 to 6 letters'", () -> {
            FuzzyTypeahead x = new FuzzyTypeahead(0);
            due("length()", x.length(), 0);
            for (int n = 1; n <= 6; n++) {
                due("type(3)", x.type(3), n);
            }
            due("type(3)", x.type(3), FULL);
            due("length()", x.length(), 6);
        });
        test("Terms, 'a DRAFT, a list of 0 to 6 letters'", () -> {
            FuzzyTypeahead x = new FuzzyTypeahead(0);
            due("add(1) of no letters", x.add(1), BAD_ARG);
            for (int n = 1; n <= 6; n++) {
                due("draft(3)", x.draft(3), n);
            }
            due("draft(3)", x.draft(3), FULL);
            due("add(1)", x.add(1), 1);
            dueOffers(x, "333333");
        });
    }

    private static void dueNearest(int limit, String word, String query, int want) {
        FuzzyTypeahead x = new State(limit, word + ":1", query, "").make();
        due("nearest() of " + query + " to " + word + ", K = " + limit, x.nearest(), want);
    }

    private static void dueReach(int limit, String word, String query, int want) {
        FuzzyTypeahead x = new State(limit, word + ":1", query, "").make();
        due("distance(0) of " + query + " to " + word + ", K = " + limit, x.distance(0), want);
    }

    private static void termsOfDistances() {
        test("Terms, 'a step puts a letter in at some place': first, between, last", () -> {
            for (String query : new String[] {"12301", "02301", "01231", "01230"}) {
                dueNearest(3, "012301", query, 1);
            }
            dueReach(3, "012301", "12301", 1);
            dueReach(3, "012301", "01201", 1);
            dueReach(3, "012301", "0201", 2);
            dueReach(3, "012301", "1201", 2);
        });
        test("Terms, 'takes a letter out': first, between, last", () -> {
            for (String query : new String[] {"301230", "031230", "012310", "012303"}) {
                dueNearest(3, "01230", query, 1);
                dueReach(3, "01230", query, 1);
            }
            dueReach(3, "0123", "012333", 2);
        });
        test("Terms, 'puts another letter in the place of one': first, between, last", () -> {
            for (String query : new String[] {"312301", "022301", "012331", "012302"}) {
                dueNearest(3, "012301", query, 1);
                dueReach(3, "012301", query, 1);
            }
            dueNearest(3, "0", "3", 1);
            dueNearest(3, "000", "333", 3);
        });
        test("Terms, 'the least number of steps'", () -> {
            // Six letters stand in wrong places, but one goes out and one comes in.
            dueNearest(3, "012301", "123012", 2);
            dueNearest(3, "012301", "301230", 2);
            // To swap two letters is no step of its own.
            dueNearest(3, "01", "10", 2);
            dueNearest(3, "0123", "0213", 2);
            dueNearest(3, "0123", "0123", 0);
            dueNearest(3, "000000", "111", NONE);
        });
        test("Terms, 'the empty list .. [is a beginning]': it is at 0 of the empty query", () -> {
            for (String word : new String[] {"0", "3", "33", "000000", "333333"}) {
                for (int limit = 0; limit <= 3; limit++) {
                    dueReach(limit, word, "", 0);
                }
            }
        });
        test("Terms, 'the empty list .. [is a beginning]': no word is beyond the query's length",
            () -> {
                dueReach(1, "000000", "1", 1);
                dueReach(2, "000000", "12", 2);
                dueReach(3, "000000", "123", 3);
                dueReach(3, "0", "123", 3);
            });
        test("Terms, 'the whole word [is a beginning]': of one letter to six, to itself", () -> {
            String letters = "012301";
            for (int n = 1; n <= 6; n++) {
                dueReach(0, letters.substring(0, n), letters.substring(0, n), 0);
            }
        });
        test("Terms, 'the whole word [is a beginning]': with letters too many", () -> {
            dueReach(1, "01230", "012301", 1);
            dueReach(2, "0123", "012301", 2);
            dueReach(3, "012", "012301", 3);
            dueReach(3, "01", "012301", NONE);
            dueReach(1, "0", "03", 1);
        });
        test("Terms, 'a beginning of the word': what stands after it costs nothing", () -> {
            dueReach(0, "012301", "0", 0);
            dueReach(0, "012301", "01230", 0);
            dueReach(1, "012301", "3", 1);
            // The end and the middle of a word are no beginnings.
            dueReach(1, "012301", "2301", NONE);
            dueReach(1, "012301", "230", NONE);
            dueReach(0, "012301", "1", NONE);
        });
        test("Terms, 'OFFERED if its reach distance is at most K'", () -> {
            String[] queries = {"", "1", "11", "111", "1111", "11111", "111111"};
            for (int limit = 0; limit <= 3; limit++) {
                for (int far = 0; far <= 6; far++) {
                    State state = new State(limit, "000000:1", queries[far], "");
                    dueOffers(state, far <= limit ? "000000" : "");
                }
            }
        });
    }

    private static void termsOfRanks() {
        test("Terms, 'the smaller reach distance comes first': whatever the weights", () -> {
            // From 0: the words 0.. are at 0, all others at 1.
            dueOffers(new State(1, "1:99 3:50 03:0 000000:1", "0", ""), "000000 03 1 3");
            // From 333: at 0, 1, 2 and 3, against the order of the weights and of the letters.
            dueOffers(new State(3, "0:99 30:98 330:97 333:0", "333", ""), "333 330 30 0");
        });
        test("Terms, 'of those with the same one the one with the greater weight'", () -> {
            dueOffers(new State(0, "0:0 1:1 2:98 3:99", "", ""), "3 2 1 0");
            dueOffers(new State(0, "3:0 2:1 1:98 0:99", "", ""), "0 1 2 3");
            dueOffers(new State(1, "00:1 01:2 1:3 2:4", "0", ""), "01 00 2 1");
        });
        test("Terms, 'a word that is a beginning of another one comes first'", () -> {
            String ranked = "0 00 000 0000 00000 000000 3 33 333 3333 33333 333333";
            dueOffers(new State(0, ranked.replace(" ", ":0 ") + ":0", "", ""), ranked);
            dueOffers(new State(0, "012301:7 01230:7 0123:7 012:7 01:7 0:7", "", ""),
                "0 01 012 0123 01230 012301");
        });
        test("Terms, 'else the one with the smaller letter at the first place': any length", () -> {
            dueOffers(new State(0, "3:5 2:5 1:5 0:5", "", ""), "0 1 2 3");
            // A longer word comes before a shorter one, though its code is greater.
            dueOffers(new State(0, "1:5 033333:5", "", ""), "033333 1");
            dueOffers(new State(0, "13:5 123333:5 1233:5", "", ""), "1233 123333 13");
            // The first place where they differ counts, not a later one.
            dueOffers(new State(0, "100000:5 033333:5", "", ""), "033333 100000");
            dueOffers(new State(0, "333333:5 333332:5 333323:5", "", ""), "333323 333332 333333");
        });
        test("Terms, 'the order of a dictionary': as well at a distance", () -> {
            dueOffers(new State(1, "3:5 2:5 11:5 1:5 033:5 0:5", "1", ""), "1 11 0 033 2 3");
        });
        test("Terms, ranks: the order in which words were added does not count", () -> {
            String[] words = {"01", "010", "1", "11"};
            for (int turn = 0; turn < 4; turn++) {
                FuzzyTypeahead x = new FuzzyTypeahead(0);
                for (int i = 0; i < 4; i++) {
                    addWord(x, words[(i + turn) % 4], 5);
                }
                dueOffers(x, "01 010 1 11");
                removeWord(x, words[turn]);
                addWord(x, words[turn], 5);
                dueOffers(x, "01 010 1 11");
            }
        });
        test("Terms, 'The CODE of a word': from the smallest to the greatest", () -> {
            String[] words = {"0", "1", "3", "00", "01", "10", "33", "012", "000000", "333333"};
            int[] codes = {1, 2, 4, 6, 7, 11, 24, 38, 3906, 15624};
            for (int i = 0; i < words.length; i++) {
                FuzzyTypeahead x = new State(0, words[i] + ":1", "", "").make();
                due("offer(0) of " + words[i], x.offer(0), codes[i]);
            }
        });
    }

    private static void termsOfCalls() {
        test("Terms, 'No call ever throws': any argument in any state", () -> {
            int[] arguments = {MIN, MIN + 1, -65536, -5, -4, -2, -1, 0, 1, 3, 4, 6, 7, 11, 12, 13,
                99, 100, 65536, MAX - 1, MAX};
            for (State state : STATES) {
                for (int argument : arguments) {
                    new FuzzyTypeahead(argument).offered();
                    callAll(state.make(), argument);
                }
            }
        });
        test("LANGUAGE.md, 7, 'No call may ever throw': not after 512 calls either", () -> {
            for (State state : STATES) {
                FuzzyTypeahead x = state.make();
                for (int i = 0; i < 1000; i++) {
                    callAll(x, i % 6 - 1);
                }
            }
        });
        test("Terms, 'BAD_ARG = -1'", () -> due("BAD_ARG", FuzzyTypeahead.BAD_ARG, -1));
        test("Terms, 'FULL = -2'", () -> due("FULL", FuzzyTypeahead.FULL, -2));
        test("Terms, 'NONE = -4'", () -> due("NONE", FuzzyTypeahead.NONE, -4));
    }

    private static void callAll(FuzzyTypeahead x, int argument) {
        look(x, new ArrayList<>());
        x.offer(argument);
        x.distance(argument);
        x.weightAt(argument);
        x.type(argument);
        x.draft(argument);
        x.add(argument);
        x.draft(argument);
        x.remove();
        x.backspace();
        x.scrap();
        x.reset();
        look(x, new ArrayList<>());
    }

    // ---- Promise 1

    private static void newObject() {
        int[] limits = {0, 1, 2, 3, -1, 4, MIN, MAX};
        test("Promise 1, 'No word'", () -> {
            for (int limit : limits) {
                FuzzyTypeahead x = new FuzzyTypeahead(limit);
                due("words()", x.words(), 0);
                dueOffers(x, "");
                due("exact()", x.exact(), 0);
                due("continues()", x.continues(), 0);
                due("nearest()", x.nearest(), NONE);
                for (String word : new String[] {"0", "1", "000000"}) {
                    due("remove of " + word, removeWord(x, word), NONE);
                }
            }
        });
        test("Promise 1, 'query [is] empty'", () -> {
            for (int limit : limits) {
                FuzzyTypeahead x = new FuzzyTypeahead(limit);
                due("length()", x.length(), 0);
                due("backspace()", x.backspace(), NONE);
                due("type(0)", x.type(0), 1);
            }
        });
        test("Promise 1, 'draft [is] empty'", () -> {
            for (int limit : limits) {
                FuzzyTypeahead x = new FuzzyTypeahead(limit);
                due("weight()", x.weight(), NONE);
                due("remove()", x.remove(), BAD_ARG);
                due("add(0)", x.add(0), BAD_ARG);
                due("draft(0)", x.draft(0), 1);
            }
        });
        test("Promise 1, 'below 0 it becomes 0'", () -> {
            for (int limit : new int[] {-1, -2, -3, -4, -65533, MIN, MIN + 2, 0}) {
                dueLimit(limit, 0);
            }
        });
        test("Promise 1, 'above 3 it becomes 3'", () -> {
            for (int limit : new int[] {4, 5, 6, 256, 65537, MAX - 1, MAX, 3}) {
                dueLimit(limit, 3);
            }
        });
        test("Promise 1, 'limit K': 1 and 2 stay", () -> {
            dueLimit(1, 1);
            dueLimit(2, 2);
        });
        test("Promise 1, 'A new object' has nothing of another one", () -> {
            FuzzyTypeahead other = new State(3, TWELVE, "012301", "333333").make();
            FuzzyTypeahead x = new FuzzyTypeahead(0);
            due("words()", x.words(), 0);
            due("length()", x.length(), 0);
            due("draft(0)", x.draft(0), 1);
            due("add(5)", x.add(5), 1);
            due("words() of the other", other.words(), 12);
            due("length() of the other", other.length(), 6);
            due("weight() of the other", other.weight(), 5);
        });
    }

    private static void dueLimit(int limit, int becomes) {
        String[] queries = {"", "1", "11", "111", "1111", "11111", "111111"};
        String[] nears = {"000000", "00000", "0000", "000", "00", "0", ""};
        for (int far = 0; far <= 6; far++) {
            boolean near = far <= becomes;
            FuzzyTypeahead x = new State(limit, "000000:1", queries[far], "").make();
            due("offered() at " + far + ", limit " + limit, x.offered(), near ? 1 : 0);
            dueNearest(limit, "000000", nears[far], near ? far : NONE);
        }
    }

    // ---- Promises 2 and 3

    private static void draft() {
        test("Promise 2, 'c not 0 to 3 answers BAD_ARG'", () -> {
            for (State state : STATES) {
                for (int c : NO_LETTERS) {
                    if (state.draft().length() < 6) {
                        dueRefused(state, "draft(" + c + ")", x -> x.draft(c), BAD_ARG);
                    }
                }
            }
        });
        test("Promise 2, '6 letters answers FULL'", () -> {
            for (State state : STATES) {
                for (int n = 0; n <= 3; n++) {
                    int c = n;
                    if (state.draft().length() == 6) {
                        dueRefused(state, "draft(" + c + ")", x -> x.draft(c), FULL);
                    }
                }
            }
        });
        test("Promise 2, 'Tested in this order': c not 0 to 3 and 6 letters", () -> {
            for (State state : STATES) {
                for (int c : NO_LETTERS) {
                    if (state.draft().length() == 6) {
                        dueRefused(state, "draft(" + c + ")", x -> x.draft(c), BAD_ARG);
                    }
                }
            }
        });
        test("Promise 2, 'Appends letter c': as the last one, and to nothing else", () -> {
            for (State state : STATES) {
                for (int n = 0; n <= 3; n++) {
                    int c = n;
                    if (state.draft().length() < 6) {
                        State longer = state.withDraft(state.draft() + c);
                        dueState(state, "draft(" + c + ")", x -> x.draft(c), longer);
                    }
                }
            }
            FuzzyTypeahead x = new FuzzyTypeahead(0);
            draftAll(x, "01");
            x.add(5);
            dueOffers(x, "01");
        });
        test("Promise 2, 'Otherwise its length': 1 to 6", () -> {
            FuzzyTypeahead x = new FuzzyTypeahead(0);
            for (int n = 1; n <= 6; n++) {
                due("draft(" + n % 4 + ")", x.draft(n % 4), n);
            }
        });
    }

    private static void scrap() {
        test("Promise 3, 'Empties the draft': of no letter to six, and nothing else", () -> {
            for (State state : STATES) {
                dueState(state, "scrap()", FuzzyTypeahead::scrap, state.withDraft(""));
            }
            for (int n = 0; n <= 6; n++) {
                FuzzyTypeahead x = new State(0, "", "", "333333".substring(6 - n)).make();
                x.scrap();
                due("add(1) after scrap() of " + n, x.add(1), BAD_ARG);
                due("draft(0) after scrap() of " + n, x.draft(0), 1);
            }
        });
    }

    // ---- Promise 4

    private static void add() {
        test("Promise 4, 'weight not 0 to 99 .. answers BAD_ARG'", () -> {
            for (State state : STATES) {
                for (int w : NO_WEIGHTS) {
                    if (!state.draft().isEmpty() && (!state.isFull() || state.draftIsWord())) {
                        dueRefused(state, "add(" + w + ")", x -> x.add(w), BAD_ARG);
                    }
                }
            }
        });
        test("Promise 4, 'or draft empty answers BAD_ARG'", () -> {
            for (State state : STATES) {
                for (int w : new int[] {0, 50, 99, -1, 100}) {
                    if (state.draft().isEmpty()) {
                        dueRefused(state, "add(" + w + ")", x -> x.add(w), BAD_ARG);
                    }
                }
            }
        });
        test("Promise 4, 'it is no word yet and there are 12 answers FULL'", () -> {
            for (String letters : NO_WORDS_OF_TWELVE) {
                State state = new State(1, TWELVE, "01", letters);
                for (int w : new int[] {0, 50, 99}) {
                    dueRefused(state, "add(" + w + ")", x -> x.add(w), FULL);
                }
            }
        });
        test("Promise 4, 'Tested in this order': no weight, and there are 12", () -> {
            for (int w : NO_WEIGHTS) {
                State state = new State(1, TWELVE, "01", "301");
                dueRefused(state, "add(" + w + ")", x -> x.add(w), BAD_ARG);
            }
        });
        test("Promise 4, 'Tested in this order': draft empty, and there are 12", () -> {
            State state = new State(1, TWELVE, "01", "");
            dueRefused(state, "add(50)", x -> x.add(50), BAD_ARG);
        });
        addAccepted();
    }

    private static void addAccepted() {
        test("Promise 4, 'becomes a word': the first and the twelfth too", () -> {
            dueAdded("", "333333", 0);
            dueAdded("", "0", 99);
            dueAdded("0:1", "00", 5);
            String eleven = TWELVE.replace(" 20:98", "");
            dueAdded(eleven, "20", 98);
            dueAdded(eleven, "222222", 0);
            dueAdded(eleven, "30", 99);
        });
        test("Promise 4, 'if it is one, gets this weight': of 12 words too", () -> {
            for (String entry : TWELVE.split(" ")) {
                String word = entry.split(":")[0];
                for (int w : new int[] {0, 51, 99}) {
                    State before = new State(1, TWELVE, "01", word);
                    due("add(" + w + ") of " + word, before.make().add(w), 0);
                    String words = (" " + TWELVE).replace(" " + entry, " " + word + ":" + w);
                    State after = new State(1, words.trim(), "01", "");
                    dueState(before, "add(" + w + ")", x -> x.add(w), after);
                }
            }
        });
        test("Promise 4, 'the draft is empty afterwards': after 1 and after 0", () -> {
            FuzzyTypeahead x = new State(0, "", "", "012301").make();
            due("add(5)", x.add(5), 1);
            due("add(5) again", x.add(5), BAD_ARG);
            draftAll(x, "012301");
            due("add(6)", x.add(6), 0);
            due("add(6) again", x.add(6), BAD_ARG);
            due("draft(3)", x.draft(3), 1);
        });
        test("Promise 4, 'there are 12': no longer, once one is removed", () -> {
            for (String entry : TWELVE.split(" ")) {
                FuzzyTypeahead x = new State(0, TWELVE, "", "").make();
                due("add(7) of 32", addWord(x, "32", 7), FULL);
                removeWord(x, entry.split(":")[0]);
                due("add(7) of 32", addWord(x, "32", 7), 1);
                due("add(7) of 31", addWord(x, "31", 7), FULL);
                due("weight of 32", weightOf(x, "32"), 7);
            }
        });
    }

    private static void dueAdded(String words, String draft, int weight) {
        State before = new State(2, words, "0", draft);
        State after = new State(2, (words + " " + draft + ":" + weight).trim(), "0", "");
        due("add(" + weight + ") on " + before, before.make().add(weight), 1);
        dueState(before, "add(" + weight + ")", x -> x.add(weight), after);
    }

    // ---- Promises 5 to 7

    private static void remove() {
        test("Promise 5, 'Tested in this order: draft empty answers BAD_ARG'", () -> {
            for (State state : STATES) {
                State empty = state.withDraft("");
                dueRefused(empty, "remove()", FuzzyTypeahead::remove, BAD_ARG);
            }
        });
        test("Promise 5, 'it is no word answers NONE'", () -> {
            for (State state : STATES) {
                if (!state.draft().isEmpty() && !state.draftIsWord()) {
                    dueRefused(state, "remove()", FuzzyTypeahead::remove, NONE);
                }
            }
            for (String letters : NO_WORDS_OF_TWELVE) {
                State state = new State(1, TWELVE, "0", letters);
                dueRefused(state, "remove()", FuzzyTypeahead::remove, NONE);
            }
        });
        test("Promise 5, 'no longer a word': the first, the last, the only one", () -> {
            for (String entry : TWELVE.split(" ")) {
                dueRemoved(TWELVE, entry);
                dueRemoved(entry, entry);
            }
            FuzzyTypeahead x = new State(3, TWELVE, "", "").make();
            int left = 12;
            for (String entry : TWELVE.split(" ")) {
                removeWord(x, entry.split(":")[0]);
                left--;
                due("words()", x.words(), left);
                due("remove of " + entry + " again", removeWord(x, entry.split(":")[0]), NONE);
            }
            dueOffers(x, "");
        });
        test("Promise 5, 'Otherwise the weight it had': 0 and 99, and the last it got", () -> {
            FuzzyTypeahead x = new State(0, "0:0 00:99 1:4", "", "").make();
            due("remove of 0", removeWord(x, "0"), 0);
            due("remove of 00", removeWord(x, "00"), 99);
            due("add(0) of 1", addWord(x, "1", 0), 0);
            due("remove of 1", removeWord(x, "1"), 0);
        });
        test("Promise 5, 'the draft is empty afterwards'", () -> {
            FuzzyTypeahead x = new State(0, "012301:3", "", "012301").make();
            due("remove()", x.remove(), 3);
            due("remove() again", x.remove(), BAD_ARG);
            due("draft(3)", x.draft(3), 1);
        });
    }

    private static void dueRemoved(String words, String entry) {
        String[] parts = entry.split(":");
        State before = new State(2, words, "01", parts[0]);
        String left = (" " + words).replace(" " + entry, "").trim();
        due("remove() on " + before, before.make().remove(), Integer.parseInt(parts[1]));
        dueState(before, "remove()", FuzzyTypeahead::remove, new State(2, left, "01", ""));
    }

    private static void weight() {
        test("Promise 6, 'NONE if they are no word': an empty draft too", () -> {
            for (State state : STATES) {
                State empty = state.withDraft("");
                dueRefused(empty, "weight()", FuzzyTypeahead::weight, NONE);
                if (!state.draftIsWord()) {
                    dueRefused(state, "weight()", FuzzyTypeahead::weight, NONE);
                }
            }
        });
        test("Promise 6, 'NONE if they are no word': a beginning, and a letter more", () -> {
            for (String letters : NO_WORDS_OF_TWELVE) {
                State state = new State(1, TWELVE, "0", letters);
                dueRefused(state, "weight()", FuzzyTypeahead::weight, NONE);
            }
        });
        test("Promise 6, 'The weight .. as a word': 0 and 99, of 12 words", () -> {
            new State(0, TWELVE, "", "").weights().forEach((word, weight) -> {
                State state = new State(0, TWELVE, "", word);
                due("weight() of " + word, state.make().weight(), weight);
            });
        });
        test("Promise 6, 'the draft stays'", () -> {
            for (State state : STATES) {
                dueState(state, "weight()", FuzzyTypeahead::weight, state);
            }
        });
    }

    private static void words() {
        test("Promise 7, 'The number of words': 0 to 12", () -> {
            FuzzyTypeahead x = new FuzzyTypeahead(0);
            due("words()", x.words(), 0);
            int n = 0;
            for (String entry : TWELVE.split(" ")) {
                addWord(x, entry.split(":")[0], 1);
                n++;
                due("words()", x.words(), n);
            }
        });
        test("Promise 7, 'The number of words': not of those offered", () -> {
            due("words()", new State(0, TWELVE, "222222", "").make().words(), 12);
            due("words()", new State(0, "0:1", "3", "").make().words(), 1);
        });
    }

    // ---- Promises 8 to 11

    private static void type() {
        test("Promise 8, 'c not 0 to 3 answers BAD_ARG'", () -> {
            for (State state : STATES) {
                for (int c : NO_LETTERS) {
                    if (state.query().length() < 6) {
                        dueRefused(state, "type(" + c + ")", x -> x.type(c), BAD_ARG);
                    }
                }
            }
        });
        test("Promise 8, '6 letters answers FULL'", () -> {
            for (State state : STATES) {
                for (int n = 0; n <= 3; n++) {
                    int c = n;
                    if (state.query().length() == 6) {
                        dueRefused(state, "type(" + c + ")", x -> x.type(c), FULL);
                    }
                }
            }
        });
        test("Promise 8, 'Tested in this order': c not 0 to 3 and 6 letters", () -> {
            for (State state : STATES) {
                for (int c : NO_LETTERS) {
                    if (state.query().length() == 6) {
                        dueRefused(state, "type(" + c + ")", x -> x.type(c), BAD_ARG);
                    }
                }
            }
        });
        test("Promise 8, 'Appends letter c': as the last one, and to nothing else", () -> {
            for (State state : STATES) {
                for (int n = 0; n <= 3; n++) {
                    int c = n;
                    if (state.query().length() < 6) {
                        State longer = state.withQuery(state.query() + c);
                        dueState(state, "type(" + c + ")", x -> x.type(c), longer);
                    }
                }
            }
            FuzzyTypeahead x = new State(0, "01:1 10:2", "0", "").make();
            x.type(1);
            dueOffers(x, "01");
        });
        test("Promise 8, 'Otherwise its length': 1 to 6", () -> {
            FuzzyTypeahead x = new FuzzyTypeahead(0);
            for (int n = 1; n <= 6; n++) {
                due("type(" + n % 4 + ")", x.type(n % 4), n);
            }
        });
    }

    private static void backspace() {
        test("Promise 9, 'NONE if it is empty'", () -> {
            for (State state : STATES) {
                State empty = state.withQuery("");
                dueRefused(empty, "backspace()", FuzzyTypeahead::backspace, NONE);
            }
        });
        test("Promise 9, 'Takes the last letter off .. and answers it': from six to none", () -> {
            for (String letters : new String[] {"301203", "000000", "333333", "012301"}) {
                FuzzyTypeahead x = new State(0, "", letters, "").make();
                for (int n = 5; n >= 0; n--) {
                    due("backspace() of " + letters, x.backspace(), letters.charAt(n) - '0');
                    due("length()", x.length(), n);
                }
                due("backspace() of none", x.backspace(), NONE);
                due("type(2)", x.type(2), 1);
            }
        });
        test("Promise 9, 'Takes the last letter off': and nothing else", () -> {
            for (State state : STATES) {
                int n = state.query().length();
                if (n > 0) {
                    State shorter = state.withQuery(state.query().substring(0, n - 1));
                    dueState(state, "backspace()", FuzzyTypeahead::backspace, shorter);
                }
            }
        });
    }

    private static void reset() {
        test("Promise 10, 'Empties the query': of no letter to six, and nothing else", () -> {
            for (State state : STATES) {
                dueState(state, "reset()", FuzzyTypeahead::reset, state.withQuery(""));
            }
            for (int n = 0; n <= 6; n++) {
                FuzzyTypeahead x = new State(0, "", "333333".substring(6 - n), "").make();
                x.reset();
                due("length() after reset() of " + n, x.length(), 0);
                due("backspace() after reset() of " + n, x.backspace(), NONE);
                due("type(0) after reset() of " + n, x.type(0), 1);
            }
        });
    }

    private static void length() {
        test("Promise 11, 'The length of the query': 0 to 6, not the draft's", () -> {
            for (int n = 0; n <= 6; n++) {
                for (String letters : new String[] {"000000", "333333", "012301"}) {
                    String query = letters.substring(6 - n);
                    String draft = letters.substring(n);
                    FuzzyTypeahead x = new State(0, "", query, draft).make();
                    due("length() of " + query, x.length(), n);
                }
            }
        });
    }

    // ---- Promises 12 to 15

    private static void offered() {
        test("Promise 12, 'How many words are offered': 0 without words", () -> {
            for (int limit = 0; limit <= 3; limit++) {
                due("offered()", new State(limit, "", "", "").make().offered(), 0);
                due("offered()", new State(limit, "", "0", "0").make().offered(), 0);
            }
        });
        test("Promise 12, 'How many words are offered': all 12, none of 12", () -> {
            for (int limit = 0; limit <= 3; limit++) {
                due("offered()", new State(limit, TWELVE, "", "").make().offered(), 12);
                due("offered()", new State(limit, TWELVE, "222222", "").make().offered(), 0);
            }
        });
        test("Promise 12, 'How many words are offered': more with each K", () -> {
            // From 1111: at 0, 1, 2, 3 and 4.
            String words = "11111:1 111:1 110000:1 1:1 0:1";
            for (int limit = 0; limit <= 3; limit++) {
                FuzzyTypeahead x = new State(limit, words, "1111", "").make();
                due("offered(), K = " + limit, x.offered(), limit + 1);
            }
        });
    }

    private static final int[] NO_RANKS = {-1, -2, -4, -12, 12, 13, 65536, MIN, MIN + 1, MAX};

    /** How many are offered, and which: all 12, four of 12, none of 12, none at all. */
    private static final State ALL_OFFERED = new State(0, TWELVE, "", "30");
    private static final State FOUR_OFFERED = new State(0, TWELVE, "3", "30");
    private static final State NONE_OFFERED = new State(3, TWELVE, "222222", "30");
    private static final State NO_WORDS = new State(3, "", "", "30");

    private interface AtRank {
        int answer(FuzzyTypeahead x, int r);
    }

    private static void dueNoneOutside(String name, AtRank call) {
        State[] states = {ALL_OFFERED, FOUR_OFFERED, NONE_OFFERED, NO_WORDS};
        int[] offered = {12, 4, 0, 0};
        for (int i = 0; i < states.length; i++) {
            for (int r : NO_RANKS) {
                dueRefused(states[i], name + "(" + r + ")", x -> call.answer(x, r), NONE);
            }
            for (int n = offered[i]; n <= 12; n++) {
                int r = n;
                dueRefused(states[i], name + "(" + r + ")", x -> call.answer(x, r), NONE);
            }
        }
    }

    private static void offer() {
        test("Promise 13, 'NONE if there is none'", () ->
            dueNoneOutside("offer", FuzzyTypeahead::offer));
        test("Promise 13, '0 is the first': and 11 the last of 12", () ->
            dueOffers(ALL_OFFERED, TWELVE_BY_WEIGHT));
        test("Promise 13, 'of those offered': not of all words", () ->
            dueOffers(FOUR_OFFERED, "3012 333333 33 3"));
    }

    private static void distance() {
        test("Promise 14, 'NONE if there is none'", () ->
            dueNoneOutside("distance", FuzzyTypeahead::distance));
        test("Promise 14, 'at rank r of those offered': 0 to 11", () -> {
            FuzzyTypeahead x = new State(3, TWELVE, "333", "").make();
            // 333333, 33, 3012 and 3; all others have no beginning nearer than the empty one.
            int[] distances = {0, 1, 2, 2, 3, 3, 3, 3, 3, 3, 3, 3};
            for (int r = 0; r < 12; r++) {
                due("distance(" + r + ")", x.distance(r), distances[r]);
            }
        });
        test("Promise 14, 'The reach distance': 0 to 3", () -> {
            for (int limit = 0; limit <= 3; limit++) {
                for (int far = 0; far <= 6; far++) {
                    String query = "111111".substring(6 - far);
                    dueReach(limit, "000000", query, far <= limit ? far : NONE);
                }
            }
        });
    }

    private static void weightAt() {
        test("Promise 15, 'NONE if there is none'", () ->
            dueNoneOutside("weightAt", FuzzyTypeahead::weightAt));
        test("Promise 15, 'The weight of the word at rank r': 0 and 99, 0 to 11", () -> {
            FuzzyTypeahead x = ALL_OFFERED.make();
            int[] weights = {99, 98, 98, 50, 50, 33, 5, 4, 3, 2, 1, 0};
            for (int r = 0; r < 12; r++) {
                due("weightAt(" + r + ")", x.weightAt(r), weights[r]);
            }
        });
        test("Promise 15, 'of those offered': not of all words", () -> {
            FuzzyTypeahead x = FOUR_OFFERED.make();
            int[] weights = {33, 5, 4, 3};
            for (int r = 0; r < 4; r++) {
                due("weightAt(" + r + ")", x.weightAt(r), weights[r]);
            }
        });
    }

    // ---- Promises 16 to 18

    private static void nearest() {
        test("Promise 16, 'if it is at most K; else NONE'", () -> {
            for (int limit = 0; limit <= 3; limit++) {
                for (int far = 0; far <= 6; far++) {
                    String word = "000000";
                    String query = "111111".substring(6 - far) + word.substring(far);
                    dueNearest(limit, word, query, far <= limit ? far : NONE);
                    if (far > limit) {
                        State state = new State(limit, word + ":1", query, "00");
                        dueRefused(state, "nearest()", FuzzyTypeahead::nearest, NONE);
                    }
                }
            }
        });
        test("Promise 16, 'else NONE': there is no word", () -> {
            for (int limit = 0; limit <= 3; limit++) {
                for (String query : new String[] {"", "0", "333333"}) {
                    State state = new State(limit, "", query, "0");
                    dueRefused(state, "nearest()", FuzzyTypeahead::nearest, NONE);
                }
            }
        });
        test("Promise 16, 'a whole word': not a beginning", () -> {
            dueNearest(3, "0123", "0", 3);
            dueNearest(2, "0123", "0", NONE);
            dueNearest(0, "01", "0", NONE);
            dueNearest(1, "01", "0", 1);
            dueNearest(3, "012301", "01230", 1);
        });
        test("Promise 16, 'the whole query': not a beginning of it", () -> {
            dueNearest(3, "0", "0123", 3);
            dueNearest(2, "0", "0123", NONE);
            dueNearest(0, "0", "01", NONE);
            dueNearest(1, "01230", "012301", 1);
        });
        test("Promise 16, 'the whole query': an empty one", () -> {
            dueNearest(1, "3", "", 1);
            dueNearest(0, "3", "", NONE);
            dueNearest(3, "333", "", 3);
            dueNearest(3, "3333", "", NONE);
        });
        test("Promise 16, 'The least edit distance': wherever the word stands", () -> {
            String[] words = {"0123", "0120", "0100", "3333"};
            for (int turn = 0; turn < 4; turn++) {
                FuzzyTypeahead x = new FuzzyTypeahead(3);
                for (int i = 0; i < 4; i++) {
                    addWord(x, words[(i + turn) % 4], i);
                }
                typeAll(x, "0123");
                due("nearest() of 0123", x.nearest(), 0);
                removeWord(x, "0123");
                due("nearest() without 0123", x.nearest(), 1);
                removeWord(x, "0120");
                due("nearest() without 0120", x.nearest(), 2);
                removeWord(x, "0100");
                due("nearest() without 0100", x.nearest(), 3);
                removeWord(x, "3333");
                due("nearest() without 3333", x.nearest(), NONE);
            }
        });
    }

    private static void dueExact(String words, String query, int want) {
        for (int limit = 0; limit <= 3; limit++) {
            FuzzyTypeahead x = new State(limit, words, query, "").make();
            due("exact() of " + query + ", K = " + limit, x.exact(), want);
        }
    }

    private static void exact() {
        test("Promise 17, 'a beginning of': the empty query is one of all words", () -> {
            dueExact("", "", 0);
            dueExact("333333:0", "", 1);
            dueExact(TWELVE, "", 12);
        });
        test("Promise 17, 'a beginning of': a word is one of itself", () -> {
            dueExact("0:5", "0", 1);
            dueExact("012301:5", "012301", 1);
            dueExact("333333:5", "333333", 1);
            dueExact(TWELVE, "012301", 1);
        });
        test("Promise 17, 'a beginning of': a query longer than the word is none", () -> {
            dueExact("0:5", "00", 0);
            dueExact("01230:5", "012301", 0);
            dueExact("3:5", "333333", 0);
            dueExact(TWELVE, "222222", 0);
        });
        test("Promise 17, 'the query itself': not one with wrong letters, whatever K", () -> {
            dueExact("012:5 13:5 011:5", "01", 2);
            dueExact("012:5", "12", 0);
            dueExact("012:5", "1", 0);
            dueExact("100000:5", "0", 0);
        });
        test("Promise 17, 'How many words': 12 down to 1", () -> {
            dueExact(TWELVE, "0", 6);
            dueExact(TWELVE, "01", 5);
            dueExact(TWELVE, "01230", 2);
            dueExact(TWELVE, "3", 4);
            dueExact(TWELVE, "33333", 1);
            dueExact(TWELVE, "1", 0);
        });
    }

    private static void dueContinues(String words, String query, int want) {
        for (int limit = 0; limit <= 3; limit++) {
            FuzzyTypeahead x = new State(limit, words, query, "").make();
            due("continues() of " + query + ", K = " + limit, x.continues(), want);
        }
    }

    private static void continues() {
        test("Promise 18, 'the sum of 2 to the power c': each letter, none, all", () -> {
            dueContinues("0:1", "", 1);
            dueContinues("1:1", "", 2);
            dueContinues("2:1", "", 4);
            dueContinues("3:1", "", 8);
            dueContinues("", "", 0);
            dueContinues("", "0", 0);
            dueContinues("0:1 11:1 222:1 333333:1", "", 15);
        });
        test("Promise 18, 'The set of the letters': each once", () -> {
            dueContinues("30:1 31:1 32:1 333333:1 3:1", "", 8);
            dueContinues("300:1 301:1 302:1 30:1 31:1", "3", 3);
        });
        test("Promise 18, 'followed by c is a beginning': the empty query's are the first ones",
            () -> dueContinues(TWELVE, "", 13));
        test("Promise 18, 'followed by c is a beginning': a query that is a word itself", () -> {
            dueContinues("0:1", "0", 0);
            dueContinues("0:1 03:1", "0", 8);
            dueContinues("333:1", "333", 0);
        });
        test("Promise 18, 'followed by c is a beginning': five letters and six", () -> {
            dueContinues("333330:1 333333:1", "33333", 9);
            dueContinues("000000:1", "00000", 1);
            dueContinues("333333:1", "333333", 0);
            dueContinues("000000:1", "000000", 0);
            dueContinues(TWELVE, "012301", 0);
        });
        test("Promise 18, 'the query followed by c': no other query, whatever K", () -> {
            dueContinues("0123:1", "1", 0);
            dueContinues("0123:1", "02", 0);
            dueContinues("0123:1 1300:1", "1", 8);
            dueContinues("0:1", "01", 0);
        });
    }
}
