import java.util.ArrayDeque;
import java.util.ArrayList;
import java.util.Arrays;
import java.util.Comparator;
import java.util.HashMap;
import java.util.List;
import java.util.Map;
import java.util.TreeMap;

/**
 * Long runs of calls, each answer held against a plain model of the document: words are strings,
 * and the edit distance is found by trying the steps that the document names, one after another.
 */
public final class ModelTest {
    private static final int RUNS = 1000;
    /** The document promises 512 calls; the last step of a run may make up to eight. */
    private static final int CALLS = 504;

    /** Codes of at most six letters are below five to the power of six. */
    private static final int CODES = 15625;
    private static final Map<Integer, int[]> NEIGHBOURS = neighbours();
    private static final Map<Integer, byte[]> STEPS = new HashMap<>();

    private final FuzzyTypeahead real;
    private final int limit;
    private final TreeMap<String, Integer> dictionary = new TreeMap<>();
    private String draft = "";
    private String query = "";
    private final StringBuilder calls = new StringBuilder();
    private int made = 0;
    private long seed;

    private ModelTest(int run) {
        int asked = run % 7 - 1;
        real = new FuzzyTypeahead(asked);
        limit = Math.max(0, Math.min(3, asked));
        seed = 7919L * run + 17;
        calls.append("new(").append(asked).append(")");
    }

    public static void main(String[] args) {
        for (int run = 0; run < RUNS; run++) {
            if (!new ModelTest(run).holds()) {
                System.exit(1);
            }
        }
        System.out.println("all " + RUNS + " runs are as the model");
    }

    private boolean holds() {
        while (made < CALLS) {
            if (!callHolds()) {
                return false;
            }
        }
        return true;
    }

    private void note(String call) {
        made++;
        calls.append(' ').append(call);
    }

    /** A number from 0 to below the bound; the same ones in every run of the tests. */
    private int next(int bound) {
        seed = seed * 6364136223846793005L + 1442695040888963407L;
        return (int) ((seed >>> 33) % bound);
    }

    private boolean callHolds() {
        int kind = next(32);
        switch (kind) {
            case 0: case 1: case 2: case 3: case 4: case 5: case 6: {
                int c = letter();
                return same("draft(" + c + ")", real.draft(c), modelDraft(c));
            }
            case 7:
                if (next(3) == 0) {
                    real.scrap();
                    draft = "";
                    note("scrap()");
                }
                return true;
            case 8: case 9: case 10: case 11: {
                int weight = next(3) == 0 ? next(104) - 2 : 40 + next(2);
                return same("add(" + weight + ")", real.add(weight), modelAdd(weight));
            }
            case 12:
                pickWordAsDraft();
                return same("remove()", real.remove(), modelRemove());
            case 13:
                return same("weight()", real.weight(), dictionary.getOrDefault(draft, -4));
            case 14:
                return same("words()", real.words(), dictionary.size());
            case 15: case 16: case 17: case 18: case 19: {
                int c = letter();
                return same("type(" + c + ")", real.type(c), modelType(c));
            }
            case 20: case 21:
                return same("backspace()", real.backspace(), modelBackspace());
            case 22:
                if (next(4) == 0) {
                    real.reset();
                    query = "";
                    note("reset()");
                }
                return true;
            case 23:
                return same("length()", real.length(), query.length());
            case 24:
                return same("offered()", real.offered(), ranked().size());
            case 25: case 26: {
                int r = next(15) - 1;
                return same("offer(" + r + ")", real.offer(r), atRank(r, 0));
            }
            case 27: {
                int r = next(15) - 1;
                return same("distance(" + r + ")", real.distance(r), atRank(r, 1));
            }
            case 28: {
                int r = next(15) - 1;
                return same("weightAt(" + r + ")", real.weightAt(r), atRank(r, 2));
            }
            case 29:
                return same("nearest()", real.nearest(), modelNearest());
            case 30:
                return same("exact()", real.exact(), modelExact());
            default:
                return same("continues()", real.continues(), modelContinues());
        }
    }

    private boolean same(String call, int got, int want) {
        note(call);
        if (got != want) {
            System.out.println(calls + " answered " + got + ", due is " + want);
        }
        return got == want;
    }

    private int letter() {
        return next(20) == 0 ? next(9) * 2 - 9 : next(4);
    }

    /** Mostly drafts a word that there is, since a draft by chance is seldom one. */
    private void pickWordAsDraft() {
        if (dictionary.isEmpty() || next(4) == 0) {
            return;
        }
        draft = new ArrayList<>(dictionary.keySet()).get(next(dictionary.size()));
        real.scrap();
        note("scrap()");
        for (char c : draft.toCharArray()) {
            real.draft(c - '0');
            note("draft(" + c + ")");
        }
    }

    private int modelDraft(int c) {
        if (c < 0 || c > 3) {
            return -1;
        }
        if (draft.length() == 6) {
            return -2;
        }
        draft += c;
        return draft.length();
    }

    private int modelType(int c) {
        if (c < 0 || c > 3) {
            return -1;
        }
        if (query.length() == 6) {
            return -2;
        }
        query += c;
        return query.length();
    }

    private int modelBackspace() {
        if (query.isEmpty()) {
            return -4;
        }
        int last = query.charAt(query.length() - 1) - '0';
        query = query.substring(0, query.length() - 1);
        return last;
    }

    private int modelAdd(int weight) {
        if (weight < 0 || weight > 99 || draft.isEmpty()) {
            return -1;
        }
        if (!dictionary.containsKey(draft) && dictionary.size() == 12) {
            return -2;
        }
        Integer before = dictionary.put(draft, weight);
        draft = "";
        return before == null ? 1 : 0;
    }

    private int modelRemove() {
        if (draft.isEmpty()) {
            return -1;
        }
        if (!dictionary.containsKey(draft)) {
            return -4;
        }
        int weight = dictionary.remove(draft);
        draft = "";
        return weight;
    }

    private List<String> ranked() {
        List<String> offered = new ArrayList<>();
        for (String word : dictionary.keySet()) {
            if (reach(word) <= limit) {
                offered.add(word);
            }
        }
        offered.sort(Comparator.<String>comparingInt(this::reach)
            .thenComparing(word -> -dictionary.get(word))
            .thenComparing(Comparator.naturalOrder()));
        return offered;
    }

    /** The code (0), the reach distance (1) or the weight (2) of the word at rank r. */
    private int atRank(int r, int what) {
        List<String> offered = ranked();
        if (r < 0 || r >= offered.size()) {
            return -4;
        }
        String word = offered.get(r);
        return what == 0 ? code(word) : what == 1 ? reach(word) : dictionary.get(word);
    }

    private static int code(String word) {
        int code = 0;
        for (char c : word.toCharArray()) {
            code = code * 5 + (c - '0') + 1;
        }
        return code;
    }

    private int reach(String word) {
        int least = Integer.MAX_VALUE;
        for (int n = 0; n <= word.length(); n++) {
            least = Math.min(least, steps(query, word.substring(0, n)));
        }
        return least;
    }

    private int modelNearest() {
        int least = Integer.MAX_VALUE;
        for (String word : dictionary.keySet()) {
            least = Math.min(least, steps(query, word));
        }
        return least <= limit ? least : -4;
    }

    private int modelExact() {
        int sum = 0;
        for (String word : dictionary.keySet()) {
            sum += word.startsWith(query) ? 1 : 0;
        }
        return sum;
    }

    private int modelContinues() {
        int set = 0;
        for (int c = 0; c <= 3; c++) {
            for (String word : dictionary.keySet()) {
                if (word.startsWith(query + c)) {
                    set |= 1 << c;
                }
            }
        }
        return set;
    }

    /** The edit distance of two lists of at most six letters. */
    private static int steps(String one, String two) {
        return STEPS.computeIfAbsent(code(one), ModelTest::walk)[code(two)];
    }

    /**
     * The edit distances of one list to all lists of at most six letters, at their codes. Lists of
     * more letters are not needed on the way: steps may be put in an order where letters go out
     * first.
     */
    private static byte[] walk(int start) {
        byte[] steps = new byte[CODES];
        Arrays.fill(steps, (byte) -1);
        ArrayDeque<Integer> open = new ArrayDeque<>();
        steps[start] = 0;
        open.add(start);
        while (!open.isEmpty()) {
            int list = open.remove();
            for (int next : NEIGHBOURS.get(list)) {
                if (steps[next] < 0) {
                    steps[next] = (byte) (steps[list] + 1);
                    open.add(next);
                }
            }
        }
        return steps;
    }

    /** For each list of at most six letters, at its code, the codes of those one step away. */
    private static Map<Integer, int[]> neighbours() {
        Map<Integer, int[]> result = new HashMap<>();
        List<String> lists = new ArrayList<>(List.of(""));
        for (int i = 0; i < lists.size(); i++) {
            String list = lists.get(i);
            for (int c = 0; c <= 3 && list.length() < 6; c++) {
                lists.add(list + c);
            }
            result.put(code(list), oneStepFrom(list).stream()
                .filter(next -> next.length() <= 6).mapToInt(ModelTest::code).distinct().toArray());
        }
        return result;
    }

    private static List<String> oneStepFrom(String list) {
        List<String> results = new ArrayList<>();
        for (int i = 0; i <= list.length(); i++) {
            String before = list.substring(0, i);
            String after = list.substring(i);
            for (int c = 0; c <= 3; c++) {
                results.add(before + c + after);
                if (!after.isEmpty()) {
                    results.add(before + c + after.substring(1));
                }
            }
            if (!after.isEmpty()) {
                results.add(before + after.substring(1));
            }
        }
        return results;
    }
}
