import java.util.ArrayList;
import java.util.List;
import java.util.TreeMap;

/** Mixed runs of calls on new objects, each answer compared with that of a plain model of the document. */
public final class ModelTest {
    private static final int RUNS = 3000;
    // The document promises 512 calls; the last look at the whole state needs up to 81 of them.
    private static final int CALLS = 430;
    private static final int KINDS = 17;

    private static int wrong = 0;
    private static long seed = 20261115L;

    /** The document in its own terms: words are texts of letters, kept in the order of texts. */
    private static final class Model {
        private final TreeMap<String, Integer> table = new TreeMap<>();

        static String letters(int number) {
            String octal = number > 0 ? Integer.toOctalString(number) : "";
            return octal.startsWith("1") && octal.length() <= 7 ? octal.substring(1) : null;
        }

        static boolean goodWord(int number) {
            return letters(number) != null && !letters(number).isEmpty();
        }

        static int number(String letters) {
            return Integer.parseInt("1" + letters, 8);
        }

        List<String> below(int row) {
            List<String> found = new ArrayList<>();
            for (String word : table.keySet()) {
                if (word.startsWith(letters(row))) {
                    found.add(word);
                }
            }
            return found;
        }

        int put(int word, int value) {
            if (!goodWord(word)) {
                return -1;
            }
            boolean isNew = !table.containsKey(letters(word));
            if (isNew && table.size() == 40) {
                return -2;
            }
            table.put(letters(word), value);
            return isNew ? 1 : 0;
        }

        int remove(int word) {
            if (!goodWord(word)) {
                return -1;
            }
            return table.remove(letters(word)) == null ? -2 : 0;
        }

        int clear(int row) {
            if (letters(row) == null) {
                return -1;
            }
            List<String> gone = below(row);
            table.keySet().removeAll(gone);
            return gone.size();
        }

        int sow(int word, int plan, int value) {
            if (!goodWord(word)) {
                return -1;
            }
            int step = Math.floorDiv(plan, 32);
            int count = Math.floorMod(plan, 32);
            if (step < 1 || step > 1000) {
                return -2;
            }
            if (count < 1 || count > 30) {
                return -3;
            }
            int number = word;
            int due = value;
            for (int left = count; left > 0; left--) {
                put(number, due);
                number += step;
                due++;
            }
            return table.size();
        }

        int has(int word) {
            return !goodWord(word) ? -1 : table.containsKey(letters(word)) ? 1 : 0;
        }

        int get(int word) {
            return goodWord(word) ? table.getOrDefault(letters(word), 0) : 0;
        }

        int first() {
            return table.isEmpty() ? -1 : number(table.firstKey());
        }

        int last() {
            return table.isEmpty() ? -1 : number(table.lastKey());
        }

        int next(int word) {
            if (!goodWord(word)) {
                return -1;
            }
            String found = table.higherKey(letters(word));
            return found == null ? -2 : number(found);
        }

        int previous(int word) {
            if (!goodWord(word)) {
                return -1;
            }
            String found = table.lowerKey(letters(word));
            return found == null ? -2 : number(found);
        }

        int rank(int word) {
            return goodWord(word) ? table.headMap(letters(word)).size() : -1;
        }

        int select(int k) {
            if (k < 0 || k >= table.size()) {
                return -1;
            }
            return number(new ArrayList<>(table.keySet()).get(k));
        }

        int count(int row) {
            return letters(row) == null ? -1 : below(row).size();
        }

        int sum(int row) {
            int total = 0;
            if (letters(row) != null) {
                for (String word : below(row)) {
                    total += table.get(word);
                }
            }
            return total;
        }

        int longest(int word) {
            if (!goodWord(word)) {
                return -1;
            }
            int found = -2;
            for (String held : table.keySet()) {
                if (letters(word).startsWith(held)) {
                    found = Math.max(found, number(held));
                }
            }
            return found;
        }

        int common(int row) {
            if (letters(row) == null) {
                return -1;
            }
            List<String> found = below(row);
            if (found.isEmpty()) {
                return -2;
            }
            String shared = found.get(0);
            for (String word : found) {
                int same = 0;
                while (same < shared.length() && same < word.length()
                        && shared.charAt(same) == word.charAt(same)) {
                    same++;
                }
                shared = shared.substring(0, same);
            }
            return number(shared);
        }
    }

    /** A fixed row of numbers that look mixed, so that each run of the test is the same. */
    private static int pick(int bound) {
        seed = seed * 6364136223846793005L + 1442695040888963407L;
        return (int) ((seed >>> 33) % bound);
    }

    private static int anyInt() {
        return (pick(65536) << 16) | pick(65536);
    }

    private static int anyRow(int alphabet) {
        int number = 1;
        for (int left = pick(7); left > 0; left--) {
            number = number * 8 + (pick(2) == 0 ? pick(8) : 7 * pick(2)) % alphabet;
        }
        return number;
    }

    private static int anyNumber(int alphabet) {
        int kind = pick(20);
        if (kind == 0) {
            return anyInt();
        }
        if (kind == 1) {
            return (1 << pick(21)) - pick(3) + 1;
        }
        return anyRow(alphabet);
    }

    private static int anyPlan() {
        int kind = pick(10);
        if (kind == 0) {
            return anyInt();
        }
        if (kind == 1) {
            return pick(1003) * 32 + pick(32) - 32;
        }
        int step = 1 + pick(kind < 6 ? 9 : 1000);
        return step * 32 + 1 + pick(kind < 8 ? 5 : 30);
    }

    private static int anyValue() {
        return pick(4) == 0 ? anyInt() : pick(201) - 100;
    }

    private static void due(int run, String call, int got, int want) {
        if (got != want) {
            wrong++;
            if (wrong <= 50) {
                System.out.println("run " + run + ": " + call + " answered " + got + ", due is " + want);
            }
        }
    }

    private static void oneCall(int run, LayeredTree x, Model m, int kind, int alphabet) {
        int a = anyNumber(alphabet);
        int v = anyValue();
        switch (kind) {
            case 0: due(run, "put(" + a + ", " + v + ")", x.put(a, v), m.put(a, v)); break;
            case 1: due(run, "remove(" + a + ")", x.remove(a), m.remove(a)); break;
            case 2: due(run, "clear(" + a + ")", x.clear(a), m.clear(a)); break;
            case 3: {
                int plan = anyPlan();
                due(run, "sow(" + a + ", " + plan + ", " + v + ")", x.sow(a, plan, v), m.sow(a, plan, v));
                break;
            }
            case 4: due(run, "size()", x.size(), m.table.size()); break;
            case 5: due(run, "has(" + a + ")", x.has(a), m.has(a)); break;
            case 6: due(run, "get(" + a + ")", x.get(a), m.get(a)); break;
            case 7: due(run, "first()", x.first(), m.first()); break;
            case 8: due(run, "last()", x.last(), m.last()); break;
            case 9: due(run, "next(" + a + ")", x.next(a), m.next(a)); break;
            case 10: due(run, "previous(" + a + ")", x.previous(a), m.previous(a)); break;
            case 11: due(run, "rank(" + a + ")", x.rank(a), m.rank(a)); break;
            case 12: {
                int k = pick(10) == 0 ? anyInt() : pick(44) - 2;
                due(run, "select(" + k + ")", x.select(k), m.select(k));
                break;
            }
            case 13: due(run, "count(" + a + ")", x.count(a), m.count(a)); break;
            case 14: due(run, "sum(" + a + ")", x.sum(a), m.sum(a)); break;
            case 15: due(run, "longest(" + a + ")", x.longest(a), m.longest(a)); break;
            default: due(run, "common(" + a + ")", x.common(a), m.common(a)); break;
        }
    }

    /** Some runs grow to a full table, some stay nearly empty. */
    private static int anyKind(int style) {
        int kind = pick(KINDS);
        boolean takesOut = kind == 1 || kind == 2;
        if (style == 0 && takesOut && pick(8) != 0) {
            return 0;
        }
        if (style == 1 && kind == 2 && pick(4) != 0) {
            return 1;
        }
        return kind;
    }

    private static void compareState(int run, LayeredTree x, Model m) {
        due(run, "size() at the end", x.size(), m.table.size());
        int k = 0;
        for (String letters : m.table.keySet()) {
            int word = Model.number(letters);
            due(run, "select(" + k + ") at the end", x.select(k), word);
            due(run, "get(" + word + ") at the end", x.get(word), m.get(word));
            k++;
        }
    }

    public static void main(String[] args) {
        int fullRuns = 0;
        for (int run = 1; run <= RUNS; run++) {
            LayeredTree x = new LayeredTree();
            Model m = new Model();
            int style = pick(3);
            int alphabet = pick(3) == 0 ? 8 : 2 + pick(3);
            boolean wasFull = false;
            for (int call = 0; call < CALLS; call++) {
                int kind = anyKind(style);
                oneCall(run, x, m, kind, alphabet);
                wasFull |= m.table.size() == 40;
            }
            compareState(run, x, m);
            fullRuns += wasFull ? 1 : 0;
        }
        // A run of calls that never fills the table would leave the limit untried.
        if (fullRuns < RUNS / 10) {
            wrong++;
            System.out.println("only " + fullRuns + " runs filled the table");
        }
        System.out.println(wrong == 0 ? "all answers are as due" : wrong + " answers are not as due");
        if (wrong != 0) {
            System.exit(1);
        }
    }
}
