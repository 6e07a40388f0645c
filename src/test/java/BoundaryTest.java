import java.util.ArrayList;
import java.util.List;
import java.util.Map;
import java.util.TreeMap;
import java.util.function.IntUnaryOperator;

/** Each sentence of the document that names a boundary case: a test of its own, on both sides of the boundary. */
public final class BoundaryTest {
    private static final int MIN = Integer.MIN_VALUE;
    private static final int MAX = Integer.MAX_VALUE;
    private static final int MOST_CALLS = 512;
    private static final int GIVEN = 77;

    /** The first and the last number of the words of 1 to 6 letters. */
    private static final int[][] ENDS = {
        {8, 15}, {64, 127}, {512, 1023}, {4096, 8191}, {32768, 65535}, {262144, 524287}};

    private static final int[] FAR_NUMBERS = {
        MIN, MIN + 1, MIN + 8, MIN + 64, -524288, -524287, -262144, -4096, -512, -64, -15, -8, -2, -1,
        1048575, 1048576, 2097152, 4194303, 16777216, 134217728, 1073741824, MAX - 1, MAX};

    private static int wrong = 0;
    private static String sentence = "";

    // ---- What the tests are told in ----

    private interface Call {
        int on(LayeredTree x);
    }

    private interface CallOf {
        int on(LayeredTree x, int number);
    }

    private enum Effect { NOTHING, GIVES_VALUE, TAKES_OUT }

    /**
     * A method that takes a number, with what it answers if the number is not good, if it is good and
     * no word is held, and if it is that of the only word held, which has the value 5.
     */
    private record Method(String name, int notGood, int none, IntUnaryOperator alone, Effect effect, CallOf call) {
    }

    private static final List<Method> WORD_METHODS = List.of(
        new Method("put", -1, 1, n -> 0, Effect.GIVES_VALUE, (x, n) -> x.put(n, GIVEN)),
        new Method("remove", -1, -2, n -> 0, Effect.TAKES_OUT, (x, n) -> x.remove(n)),
        new Method("sow", -1, 1, n -> 1, Effect.GIVES_VALUE, (x, n) -> x.sow(n, plan(1, 1), GIVEN)),
        new Method("has", -1, 0, n -> 1, Effect.NOTHING, (x, n) -> x.has(n)),
        new Method("get", 0, 0, n -> 5, Effect.NOTHING, (x, n) -> x.get(n)),
        new Method("next", -1, -2, n -> -2, Effect.NOTHING, (x, n) -> x.next(n)),
        new Method("previous", -1, -2, n -> -2, Effect.NOTHING, (x, n) -> x.previous(n)),
        new Method("rank", -1, 0, n -> 0, Effect.NOTHING, (x, n) -> x.rank(n)),
        new Method("longest", -1, -2, n -> n, Effect.NOTHING, (x, n) -> x.longest(n)));

    private static final List<Method> ROW_METHODS = List.of(
        new Method("clear", -1, 0, n -> 1, Effect.TAKES_OUT, (x, n) -> x.clear(n)),
        new Method("count", -1, 0, n -> 1, Effect.NOTHING, (x, n) -> x.count(n)),
        new Method("sum", 0, 0, n -> 5, Effect.NOTHING, (x, n) -> x.sum(n)),
        new Method("common", -1, -2, n -> n, Effect.NOTHING, (x, n) -> x.common(n)));

    private static List<Method> allMethods() {
        List<Method> all = new ArrayList<>(WORD_METHODS);
        all.addAll(ROW_METHODS);
        return all;
    }

    /** What a table should hold. All numbers of words begin with 1 in base 8, so their texts sort as the words do. */
    private static final class Table {
        private final TreeMap<String, Integer> held = new TreeMap<>();

        Table with(int word, int value) {
            Table other = new Table();
            other.held.putAll(held);
            other.held.put(Integer.toOctalString(word), value);
            return other;
        }

        Table without(int word) {
            Table other = new Table();
            other.held.putAll(held);
            other.held.remove(Integer.toOctalString(word));
            return other;
        }

        boolean holds(int word) {
            return held.containsKey(Integer.toOctalString(word));
        }

        int size() {
            return held.size();
        }

        int[] words() {
            int[] words = new int[held.size()];
            int k = 0;
            for (String octal : held.keySet()) {
                words[k] = Integer.parseInt(octal, 8);
                k++;
            }
            return words;
        }

        LayeredTree make() {
            LayeredTree x = new LayeredTree();
            for (Map.Entry<String, Integer> entry : held.descendingMap().entrySet()) {
                int word = Integer.parseInt(entry.getKey(), 8);
                due("put(" + word + ", " + entry.getValue() + ")", x.put(word, entry.getValue()), 1);
            }
            return x;
        }

        String text() {
            int[] words = words();
            int sum = 0;
            StringBuilder text = new StringBuilder();
            for (int word : words) {
                int value = held.get(Integer.toOctalString(word));
                sum += value;
                text.append(' ').append(word).append('=').append(value);
            }
            int first = words.length == 0 ? -1 : words[0];
            int last = words.length == 0 ? -1 : words[words.length - 1];
            return words.length + "/" + words.length + " from " + first + " to " + last + " sum " + sum + ":" + text;
        }
    }

    /** The same text as that of a Table, asked of the object: at most 85 calls. */
    private static String text(LayeredTree x) {
        int size = x.size();
        StringBuilder text = new StringBuilder();
        text.append(size).append('/').append(x.count(1));
        text.append(" from ").append(x.first()).append(" to ").append(x.last());
        text.append(" sum ").append(x.sum(1)).append(':');
        for (int k = 0; k < size && k < 40; k++) {
            int word = x.select(k);
            text.append(' ').append(word).append('=').append(x.get(word));
        }
        return text.toString();
    }

    private static final Table NONE = new Table();
    private static final Table ONE = NONE.with(row("012"), 5);
    private static final Table FULL = fullTable();
    private static final Table FULL_BUT_ONE = FULL.without(row("36"));

    /** 40 words, the first and the last of each length among them; 31, 71 and all below them are not. */
    private static Table fullTable() {
        Table table = NONE;
        int value = 100;
        for (int[] ends : ENDS) {
            table = table.with(ends[0], value).with(ends[1], value + 1);
            value += 2;
        }
        String[] more = {"1", "10", "101", "107", "1070", "11", "123456", "17", "2", "222222", "26", "27",
            "270", "277", "3", "30", "33", "333", "34", "35", "36", "37", "377777", "4", "44444", "47", "55555", "6"};
        for (String letters : more) {
            table = table.with(row(letters), value);
            value++;
        }
        return table;
    }

    /** The number of a row that is written as letters, so that tests can be read. */
    private static int row(String letters) {
        int number = 1;
        for (char letter : letters.toCharArray()) {
            number = number * 8 + (letter - '0');
        }
        return number;
    }

    private static int plan(int step, int count) {
        return 32 * step + count;
    }

    private static boolean good(int number) {
        for (int[] ends : ENDS) {
            if (ends[0] <= number && number <= ends[1]) {
                return true;
            }
        }
        return false;
    }

    /** A table of this many words, 512, 513, .., each with its number as its value. */
    private static Table tableOf(int size) {
        Table table = NONE;
        for (int k = 0; k < size; k++) {
            table = table.with(512 + k, 512 + k);
        }
        return table;
    }

    private static void wrong(String what) {
        wrong++;
        if (wrong <= 100) {
            System.out.println(sentence + ": " + what);
        }
    }

    private static void due(String call, int got, int want) {
        if (got != want) {
            wrong(call + " answered " + got + ", due is " + want);
        }
    }

    private static void dueState(String call, LayeredTree x, Table want) {
        String got = text(x);
        if (!got.equals(want.text())) {
            wrong("after " + call + " the table is " + got + ", due is " + want.text());
        }
    }

    /** One call on a new object that holds what before holds; then the whole table is looked at. */
    private static void change(Table before, String call, Call made, int want, Table after) {
        LayeredTree x = before.make();
        String told = call + " with " + before.size() + " words held";
        due(told, made.on(x), want);
        dueState(told, x, after);
    }

    private static void noChange(Table before, String call, Call made, int want) {
        change(before, call, made, want, before);
    }

    // ---- Terms: which numbers are good ----

    private static Table afterGood(Method method, Table before, int number) {
        switch (method.effect()) {
            case GIVES_VALUE: return before.with(number, GIVEN);
            case TAKES_OUT: return before.without(number);
            default: return before;
        }
    }

    private static void isGood(Method method, int number) {
        String call = method.name() + "(" + number + ")";
        Table alone = NONE.with(number, 5);
        change(NONE, call, x -> method.call().on(x, number), method.none(), afterGood(method, NONE, number));
        change(alone, call, x -> method.call().on(x, number), method.alone().applyAsInt(number),
            afterGood(method, alone, number));
    }

    private static void isNotGood(Method method, int number) {
        String call = method.name() + "(" + number + ")";
        for (Table table : List.of(NONE, ONE, FULL_BUT_ONE, FULL)) {
            noChange(table, call, x -> method.call().on(x, number), method.notGood());
        }
    }

    private static void endsOfTheNumbersOfWords() {
        for (Method method : allMethods()) {
            for (int[] ends : ENDS) {
                isNotGood(method, ends[0] - 1);
                isGood(method, ends[0]);
                isGood(method, ends[0] + 1);
                isGood(method, ends[1] - 1);
                isGood(method, ends[1]);
                isNotGood(method, ends[1] + 1);
            }
        }
    }

    private static void farNumbers() {
        for (Method method : allMethods()) {
            for (int number : FAR_NUMBERS) {
                isNotGood(method, number);
            }
        }
    }

    private static void everyNumberNearThem() {
        for (int number = -1100; number < 530000; number++) {
            for (Method method : allMethods()) {
                if (number != 1) {
                    LayeredTree x = new LayeredTree();
                    boolean isWord = x.put(number, 5) == 1;
                    int got = method.call().on(x, number);
                    int want = good(number) ? method.alone().applyAsInt(number) : method.notGood();
                    if (isWord != good(number) || got != want) {
                        wrong(method.name() + "(" + number + ") answered " + got + ", due is " + want);
                    }
                }
            }
        }
    }

    private static void oneIsNoWord() {
        for (Method method : WORD_METHODS) {
            isNotGood(method, 0);
            isNotGood(method, 1);
            isNotGood(method, 2);
        }
    }

    private static void oneIsARow() {
        for (Method method : ROW_METHODS) {
            isNotGood(method, 0);
            isNotGood(method, 2);
        }
        noChange(NONE, "clear(1)", x -> x.clear(1), 0);
        noChange(NONE, "count(1)", x -> x.count(1), 0);
        noChange(NONE, "sum(1)", x -> x.sum(1), 0);
        noChange(NONE, "common(1)", x -> x.common(1), -2);
        change(ONE, "clear(1)", x -> x.clear(1), 1, NONE);
        noChange(ONE, "count(1)", x -> x.count(1), 1);
        noChange(ONE, "sum(1)", x -> x.sum(1), 5);
        noChange(ONE, "common(1)", x -> x.common(1), row("012"));
        change(FULL, "clear(1)", x -> x.clear(1), 40, NONE);
        noChange(FULL, "count(1)", x -> x.count(1), 40);
        noChange(FULL, "sum(1)", x -> x.sum(1), 4780);
        noChange(FULL, "common(1)", x -> x.common(1), 1);
    }

    // ---- Terms: order, size, values, beginnings ----

    /** Words that are neighbours, or differ in just one letter or in length alone; the first comes before the second. */
    private static final String[][] NEIGHBOURS = {
        {"0", "00"}, {"0", "000000"}, {"00000", "000000"}, {"000000", "000001"}, {"000007", "00001"},
        {"00001", "000010"}, {"0", "1"}, {"00", "1"}, {"07", "1"}, {"077777", "1"}, {"077777", "10"},
        {"01", "02"}, {"017777", "02"}, {"0", "777777"}, {"000000", "7"}, {"3", "30"}, {"277777", "3"},
        {"37", "4"}, {"6", "7"}, {"67", "7"}, {"677777", "7"}, {"7", "70"}, {"76", "77"}, {"7", "77"},
        {"7", "777777"}, {"77777", "777777"}, {"777776", "777777"}, {"77776", "777760"}, {"77776", "77777"}};

    private static void orderOfTwo(int before, int behind) {
        Table both = NONE.with(before, 1).with(behind, 2);
        String told = " of " + before + " and " + behind;
        noChange(both, "first" + told, x -> x.first(), before);
        noChange(both, "last" + told, x -> x.last(), behind);
        noChange(both, "next of the first" + told, x -> x.next(before), behind);
        noChange(both, "next of the second" + told, x -> x.next(behind), -2);
        noChange(both, "previous of the first" + told, x -> x.previous(before), -2);
        noChange(both, "previous of the second" + told, x -> x.previous(behind), before);
        noChange(both, "rank of the first" + told, x -> x.rank(before), 0);
        noChange(both, "rank of the second" + told, x -> x.rank(behind), 1);
        noChange(both, "select(0)" + told, x -> x.select(0), before);
        noChange(both, "select(1)" + told, x -> x.select(1), behind);
    }

    private static void orderWithOneHeld(int before, int behind) {
        Table first = NONE.with(before, 1);
        Table second = NONE.with(behind, 2);
        String told = before + " and " + behind;
        noChange(first, "next, the first held of " + told, x -> x.next(behind), -2);
        noChange(first, "previous, the first held of " + told, x -> x.previous(behind), before);
        noChange(first, "rank, the first held of " + told, x -> x.rank(behind), 1);
        noChange(second, "next, the second held of " + told, x -> x.next(before), behind);
        noChange(second, "previous, the second held of " + told, x -> x.previous(before), -2);
        noChange(second, "rank, the second held of " + told, x -> x.rank(before), 0);
    }

    private static void wordsAreOrdered() {
        for (String[] pair : NEIGHBOURS) {
            int before = row(pair[0]);
            int behind = row(pair[1]);
            orderOfTwo(before, behind);
            orderWithOneHeld(before, behind);
            Table both = NONE.with(before, 1).with(behind, 2);
            LayeredTree x = new LayeredTree();
            due("put the first", x.put(before, 1), 1);
            due("put the second", x.put(behind, 2), 1);
            dueState("putting in " + before + " and then " + behind, x, both);
        }
    }

    private static void orderOfAFullTable() {
        int[] words = FULL.words();
        for (int k = 0; k < 40; k++) {
            int place = k;
            int word = words[k];
            noChange(FULL, "next(" + word + ")", x -> x.next(word), place < 39 ? words[place + 1] : -2);
            noChange(FULL, "previous(" + word + ")", x -> x.previous(word), place > 0 ? words[place - 1] : -2);
            noChange(FULL, "rank(" + word + ")", x -> x.rank(word), place);
            noChange(FULL, "select(" + place + ")", x -> x.select(place), word);
        }
    }

    /** Words that a full table does not hold: before all others, behind all others, above and below held ones. */
    private static final String[] UNHELD = {"01", "000001", "5", "50", "55", "5555", "555555", "31", "310", "777776", "70"};

    private static void atMost40ByPut() {
        Table fullButTwo = FULL_BUT_ONE.without(row("6"));
        for (String letters : UNHELD) {
            int word = row(letters);
            String call = "put(" + word + ", 3)";
            change(fullButTwo, call, x -> x.put(word, 3), 1, fullButTwo.with(word, 3));
            change(FULL_BUT_ONE, call, x -> x.put(word, 3), 1, FULL_BUT_ONE.with(word, 3));
            noChange(FULL, call, x -> x.put(word, 3), -2);
        }
        for (int word : FULL.words()) {
            change(FULL, "put(" + word + ", 3)", x -> x.put(word, 3), 0, FULL.with(word, 3));
        }
    }

    private static void atMost40BySow() {
        for (int room = 0; room <= 31; room++) {
            Table before = tableOf(40 - room);
            Table after = before;
            for (int k = 0; k < 30 && k < room; k++) {
                after = after.with(4096 + k, 900 + k);
            }
            change(before, "sow(4096, " + plan(1, 30) + ", 900)", x -> x.sow(4096, plan(1, 30), 900), after.size(), after);
        }
        for (String letters : UNHELD) {
            int word = row(letters);
            String call = "sow(" + word + ", 33, 3)";
            change(FULL_BUT_ONE, call, x -> x.sow(word, plan(1, 1), 3), 40, FULL_BUT_ONE.with(word, 3));
            noChange(FULL, call, x -> x.sow(word, plan(1, 1), 3), 40);
        }
    }

    /** The room that words leave when they are taken out is there for others, however often. */
    private static void atMost40AfterTakingOut() {
        LayeredTree x = FULL.make();
        due("remove", x.remove(row("36")), 0);
        due("put in the room left", x.put(row("5"), 1), 1);
        due("put, full again", x.put(row("36"), 1), -2);
        due("clear", x.clear(row("0")), 6);
        for (int k = 0; k < 6; k++) {
            due("put " + k + " in the room left", x.put(row("5000") + k, k), 1);
        }
        due("put, full again", x.put(row("0"), 1), -2);
        due("clear all", x.clear(1), 40);
        for (int k = 0; k < 40; k++) {
            due("put " + k + " after all were taken out", x.put(262144 + 6007 * k, k), 1);
        }
        due("put, full again", x.put(8, 1), -2);
        due("size", x.size(), 40);
    }

    private static final int[] VALUES = {MIN, MIN + 1, -1, 0, 1, MAX - 1, MAX};

    private static void valuesAreInts() {
        for (int value : VALUES) {
            Table one = NONE.with(64, value);
            change(NONE, "put(64, " + value + ")", x -> x.put(64, value), 1, one);
            change(NONE, "sow(64, 33, " + value + ")", x -> x.sow(64, plan(1, 1), value), 1, one);
            noChange(one, "get(64)", x -> x.get(64), value);
            noChange(one, "has(64)", x -> x.has(64), 1);
            noChange(one, "sum(8)", x -> x.sum(8), value);
            for (int other : VALUES) {
                change(one, "put(64, " + other + ")", x -> x.put(64, other), 0, NONE.with(64, other));
                change(one, "sow(64, 33, " + other + ")", x -> x.sow(64, plan(1, 1), other), 1, NONE.with(64, other));
            }
            change(one, "remove(64)", x -> x.remove(64), 0, NONE);
        }
    }

    /** All six beginnings of a word but the empty one are held, each with a value of its own. */
    private static Table chain(String letters) {
        return chainUpTo(letters, 6);
    }

    private static Table chainUpTo(String letters, int length) {
        Table table = NONE;
        for (int k = 1; k <= length; k++) {
            table = table.with(row(letters.substring(0, k)), 1 << k);
        }
        return table;
    }

    private static final String[] LONG_WORDS = {"000000", "012345", "700000", "777777", "007700"};

    private static void beginningsFromNoneToAll() {
        for (String letters : LONG_WORDS) {
            Table all = chain(letters);
            int whole = row(letters);
            Table only = NONE.with(whole, 5);
            for (int length = 0; length <= 6; length++) {
                int row = row(letters.substring(0, length));
                int held = length == 0 ? 6 : 7 - length;
                int shortest = length == 0 ? row(letters.substring(0, 1)) : row;
                int sum = length == 0 ? 126 : 128 - (1 << length);
                Table left = length == 0 ? NONE : chainUpTo(letters, length - 1);
                noChange(all, "count(" + row + ")", x -> x.count(row), held);
                noChange(all, "sum(" + row + ")", x -> x.sum(row), sum);
                noChange(all, "common(" + row + ")", x -> x.common(row), shortest);
                change(all, "clear(" + row + ")", x -> x.clear(row), held, left);
                noChange(only, "count(" + row + ")", x -> x.count(row), 1);
                noChange(only, "sum(" + row + ")", x -> x.sum(row), 5);
                noChange(only, "common(" + row + ")", x -> x.common(row), whole);
                change(only, "clear(" + row + ")", x -> x.clear(row), 1, NONE);
            }
        }
    }

    /** A row that differs in its last letter, and one that is longer than the word, begin nothing. */
    private static void rowsThatAreNoBeginning() {
        for (String letters : LONG_WORDS) {
            for (int length = 1; length <= 6; length++) {
                int held = row(letters.substring(0, length));
                Table only = NONE.with(held, 5);
                List<Integer> rows = new ArrayList<>(List.of(held ^ 1, held ^ 4));
                if (length < 6) {
                    rows.addAll(List.of(held * 8, held * 8 + 7));
                }
                for (int row : rows) {
                    noChange(only, "count(" + row + ")", x -> x.count(row), 0);
                    noChange(only, "sum(" + row + ")", x -> x.sum(row), 0);
                    noChange(only, "common(" + row + ")", x -> x.common(row), -2);
                    noChange(only, "clear(" + row + ")", x -> x.clear(row), 0);
                }
            }
        }
    }

    // ---- Terms: what changes nothing, and in which order is tested ----

    private static void noQuestionChangesAnything() {
        int[] numbers = {MIN, -8, -1, 0, 1, 2, 7, 8, 15, 16, 39, 40, 41, 64, row("012"), row("0120"), row("36"), row("5"),
            262144, 524287, 524288, MAX};
        for (Table table : List.of(NONE, ONE, FULL_BUT_ONE, FULL)) {
            for (int number : numbers) {
                LayeredTree x = table.make();
                for (int time = 0; time < 2; time++) {
                    for (Method method : allMethods()) {
                        if (method.effect() == Effect.NOTHING) {
                            method.call().on(x, number);
                        }
                    }
                    x.select(number);
                    x.size();
                    x.first();
                    x.last();
                }
                dueState("all questions with " + number, x, table);
            }
        }
    }

    private static void refusedCallsChangeNothing() {
        noChange(FULL, "put unheld", x -> x.put(row("31"), 1), -2);
        for (Table table : List.of(NONE, ONE, FULL_BUT_ONE, FULL)) {
            noChange(table, "put not good", x -> x.put(16, 1), -1);
            noChange(table, "remove not good", x -> x.remove(16), -1);
            noChange(table, "remove unheld", x -> x.remove(row("31")), -2);
            noChange(table, "remove unheld", x -> x.remove(row("555555")), -2);
            noChange(table, "clear not good", x -> x.clear(16), -1);
            noChange(table, "sow not good", x -> x.sow(16, plan(49, 3), 1), -1);
            noChange(table, "sow by 0", x -> x.sow(row("012"), plan(0, 5), 1), -2);
            noChange(table, "sow by 1001", x -> x.sow(row("012"), plan(1001, 5), 1), -2);
            noChange(table, "sow a negative plan", x -> x.sow(row("012"), -plan(1, 5), 1), -2);
            noChange(table, "sow 0 words", x -> x.sow(row("012"), plan(1, 0), 1), -3);
            noChange(table, "sow 31 words", x -> x.sow(row("012"), plan(1, 31), 1), -3);
        }
    }

    /** After a refused call the object goes on as if it had not been made. */
    private static void refusedCallsLeaveNoTrace() {
        LayeredTree x = new LayeredTree();
        for (int k = 0; k < 40; k++) {
            due("put not good", x.put(16, 1), -1);
            due("remove unheld", x.remove(64 + k), -2);
            due("sow 31 words", x.sow(64 + k, plan(1, 31), 1), -3);
            due("put", x.put(64 + k, k), 1);
        }
        due("put the 41st", x.put(64 + 40, 1), -2);
        due("put the 41st again", x.put(64 + 40, 1), -2);
        due("has it", x.has(64 + 40), 0);
        due("get it", x.get(64 + 40), 0);
        due("remove it", x.remove(64 + 40), -2);
        due("remove another", x.remove(64), 0);
        due("put the one refused before", x.put(64 + 40, 7), 1);
        due("get it", x.get(64 + 40), 7);
        due("size", x.size(), 40);
    }

    private static void testsAreMadeInOrder() {
        int[] badPlans = {MIN, -1, 0, 31, 32, 63, plan(1000, 31), plan(1001, 0), plan(1001, 1), plan(1001, 31), MAX};
        for (int number : new int[] {MIN, -1, 0, 1, 7, 16, 63, 524288, MAX}) {
            noChange(FULL, "put(" + number + "), full and not good", x -> x.put(number, 1), -1);
            for (Table table : List.of(NONE, FULL)) {
                noChange(table, "remove(" + number + "), not held and not good", x -> x.remove(number), -1);
                for (int plan : badPlans) {
                    noChange(table, "sow(" + number + ", " + plan + ", 1)", x -> x.sow(number, plan, 1), -1);
                }
            }
            noChange(NONE, "next(" + number + "), none and not good", x -> x.next(number), -1);
            noChange(NONE, "previous(" + number + "), none and not good", x -> x.previous(number), -1);
            noChange(NONE, "longest(" + number + "), none and not good", x -> x.longest(number), -1);
            if (number != 1) {
                noChange(NONE, "common(" + number + "), none and not good", x -> x.common(number), -1);
            }
        }
        for (int plan : new int[] {0, 31, plan(1001, 0), plan(1001, 31), -1, -32, MIN, MAX}) {
            noChange(ONE, "sow(64, " + plan + ", 1), step and count wrong", x -> x.sow(64, plan, 1), -2);
            noChange(FULL, "sow(64, " + plan + ", 1), step and count wrong", x -> x.sow(64, plan, 1), -2);
        }
        change(FULL, "put of a held word, full", x -> x.put(64, 1), 0, FULL.with(64, 1));
    }

    // ---- What it is: at most 512 calls ----

    /** A full table after 511 calls, of which those behind the first 40 changed it and changed it back. */
    private static LayeredTree beforeTheLastCall() {
        LayeredTree x = FULL.make();
        int calls = 40;
        while (calls + 3 < MOST_CALLS) {
            int word = row("36");
            due("remove", x.remove(word), 0);
            due("put", x.put(word, 129 + calls), 1);
            due("put", x.put(word, 132), 0);
            calls += 3;
        }
        while (calls + 1 < MOST_CALLS) {
            due("size", x.size(), 40);
            calls++;
        }
        return x;
    }

    private static void the512thCall() {
        due("value that is given back", FULL.make().get(row("36")), 132);
        due("put", beforeTheLastCall().put(8, 1), 0);
        due("put", beforeTheLastCall().put(row("5"), 1), -2);
        due("remove", beforeTheLastCall().remove(8), 0);
        due("clear", beforeTheLastCall().clear(1), 40);
        due("sow", beforeTheLastCall().sow(8, plan(1, 30), 1), 40);
        due("size", beforeTheLastCall().size(), 40);
        due("has", beforeTheLastCall().has(row("36")), 1);
        due("get", beforeTheLastCall().get(row("36")), 132);
        due("first", beforeTheLastCall().first(), 8);
        due("last", beforeTheLastCall().last(), 524287);
        due("next", beforeTheLastCall().next(8), 64);
        due("previous", beforeTheLastCall().previous(524287), 65535);
        due("rank", beforeTheLastCall().rank(524287), 39);
        due("select", beforeTheLastCall().select(39), 524287);
        due("count", beforeTheLastCall().count(1), 40);
        due("sum", beforeTheLastCall().sum(1), 4780);
        due("longest", beforeTheLastCall().longest(262145), 32768);
        due("common", beforeTheLastCall().common(row("5")), row("55555"));
    }

    /** All 512 calls put words in or take them out, as many as can be. */
    private static void all512CallsChangeTheTable() {
        LayeredTree x = new LayeredTree();
        for (int k = 0; k < MOST_CALLS / 2; k++) {
            due("sow at call " + (2 * k + 1), x.sow(262144 + 900 * k, plan(1000, 30), k), 30);
            due("clear at call " + (2 * k + 2), x.clear(1), 30);
        }
        LayeredTree y = new LayeredTree();
        for (int k = 0; k < MOST_CALLS / 2; k++) {
            int word = 262144 + 1023 * k;
            due("put at call " + (2 * k + 1), y.put(word, k), 1);
            due("remove at call " + (2 * k + 2), y.remove(word), 0);
        }
        LayeredTree z = new LayeredTree();
        for (int k = 0; k < MOST_CALLS; k++) {
            due("put at call " + (k + 1), z.put(262144 + 511 * k, k), k < 40 ? 1 : -2);
        }
        LayeredTree full = FULL.make();
        for (int call = 41; call + 1 < MOST_CALLS; call += 2) {
            int[] words = FULL.words();
            int word = words[call % 40];
            due("remove at call " + call, full.remove(word), 0);
            due("put at call " + (call + 1), full.put(word, call), 1);
        }
    }

    // ---- Promises 1 to 5 ----

    private static void aNewObjectHoldsNothing() {
        LayeredTree full = FULL.make();
        noChange(NONE, "size", x -> x.size(), 0);
        for (Method method : allMethods()) {
            if (method.effect() == Effect.NOTHING) {
                for (int[] ends : ENDS) {
                    noChange(NONE, method.name(), x -> method.call().on(x, ends[0]), method.none());
                    noChange(NONE, method.name(), x -> method.call().on(x, ends[1]), method.none());
                }
            }
        }
        dueState("making others", full, FULL);
    }

    private static void putAnswers() {
        for (Table table : List.of(NONE, ONE, tableOf(38), tableOf(39), FULL_BUT_ONE)) {
            int word = row("36");
            change(table, "put a new word", x -> x.put(word, -4), 1, table.with(word, -4));
            change(table.with(8, 3), "put a held word", x -> x.put(8, -4), 0, table.with(8, -4));
        }
        Table same = NONE.with(8, 3);
        noChange(same, "put a held word with the value it has", x -> x.put(8, 3), 0);
        noChange(FULL, "put a held word with the value it has", x -> x.put(row("36"), 132), 0);
    }

    private static void removeAnswers() {
        for (int size : new int[] {1, 2, 39, 40}) {
            Table table = tableOf(size);
            for (int word : table.words()) {
                change(table, "remove(" + word + ")", x -> x.remove(word), 0, table.without(word));
            }
            noChange(table, "remove the row above them", x -> x.remove(64), -2);
            noChange(table, "remove behind the last", x -> x.remove(512 + size), -2);
            noChange(table, "remove below a held one", x -> x.remove(4096), -2);
        }
        noChange(NONE, "remove", x -> x.remove(8), -2);
        LayeredTree x = ONE.make();
        due("remove", x.remove(row("012")), 0);
        due("remove again", x.remove(row("012")), -2);
        dueState("removing the only word", x, NONE);
    }

    private static void removeLeavesBeginnings() {
        for (String letters : LONG_WORDS) {
            Table all = chain(letters);
            for (int length = 1; length <= 6; length++) {
                int word = row(letters.substring(0, length));
                change(all, "remove(" + word + ")", x -> x.remove(word), 0, all.without(word));
            }
        }
    }

    private static void clearAnswers() {
        noChange(NONE, "clear(8)", x -> x.clear(8), 0);
        noChange(FULL, "clear an unheld row", x -> x.clear(row("71")), 0);
        change(FULL, "clear one", x -> x.clear(row("333")), 1, FULL.without(row("333")));
        change(FULL, "clear the last", x -> x.clear(524287), 1, FULL.without(524287));
        change(FULL, "clear an unheld row above one", x -> x.clear(row("5")), 1, FULL.without(row("55555")));
        Table without3 = FULL;
        for (String letters : new String[] {"3", "30", "33", "333", "34", "35", "36", "37", "377777"}) {
            without3 = without3.without(row(letters));
        }
        change(FULL, "clear(3)", x -> x.clear(row("3")), 9, without3);
        Table all = tableOf(40);
        change(all, "clear(00)", x -> x.clear(row("00")), 8, tableWithout(512, 519));
        change(all, "clear(04)", x -> x.clear(row("04")), 8, tableWithout(544, 551));
        change(all, "clear(0)", x -> x.clear(row("0")), 40, NONE);
        noChange(all, "clear(1)", x -> x.clear(row("1")), 0);
        noChange(all, "clear(05)", x -> x.clear(row("05")), 0);
    }

    private static Table tableWithout(int from, int to) {
        Table table = tableOf(40);
        for (int word = from; word <= to; word++) {
            table = table.without(word);
        }
        return table;
    }

    /** What sow should leave, told by promises 5 and 19. */
    private static Table sown(Table before, int word, int step, int count, int value) {
        Table table = before;
        for (int k = 0; k < count; k++) {
            int number = word + k * step;
            if (good(number) && (table.holds(number) || table.size() < 40)) {
                table = table.with(number, value + k);
            }
        }
        return table;
    }

    private static void sows(Table before, int word, int step, int count, int value) {
        Table after = sown(before, word, step, count, value);
        String call = "sow(" + word + ", " + plan(step, count) + ", " + value + ")";
        change(before, call, x -> x.sow(word, plan(step, count), value), after.size(), after);
    }

    private static void stepFrom1To1000() {
        for (int count : new int[] {1, 2, 30}) {
            for (Table table : List.of(NONE, ONE, FULL_BUT_ONE, FULL)) {
                for (int step : new int[] {1, 2, 31, 32, 33, 999, 1000}) {
                    sows(table, 262144, step, count, 7);
                    sows(table, 8, step, count, 7);
                }
                for (int step : new int[] {0, 1001, 1002, 1024, 1025, 2000, 32768, 65537, MAX / 32}) {
                    noChange(table, "sow by " + step, x -> x.sow(262144, plan(step, count), 7), -2);
                }
            }
        }
    }

    private static void countFrom1To30() {
        for (int step : new int[] {1, 2, 999, 1000}) {
            for (Table table : List.of(NONE, ONE, FULL_BUT_ONE, FULL)) {
                for (int count = 1; count <= 30; count++) {
                    sows(table, 262144, step, count, 7);
                }
                noChange(table, "sow 0 by " + step, x -> x.sow(262144, plan(step, 0), 7), -3);
                noChange(table, "sow 31 by " + step, x -> x.sow(262144, plan(step, 31), 7), -3);
            }
        }
    }

    private static void aNegativePlan() {
        int[] plans = {-1, -2, -30, -31, -32, -33, -34, -62, -63, -64, -65, -31999, -32000, -32001, -32030, -32033,
            MIN, MIN + 1, MIN + 31, MIN + 32, MIN + 33, MIN + plan(1, 5), MIN + plan(1000, 30)};
        for (int plan : plans) {
            for (Table table : List.of(NONE, ONE, FULL)) {
                noChange(table, "sow(64, " + plan + ", 7)", x -> x.sow(64, plan, 7), -2);
            }
        }
    }

    private static void everyPlanNearTheEnds() {
        for (int plan = -40000; plan < 70000; plan++) {
            int step = Math.floorDiv(plan, 32);
            int count = Math.floorMod(plan, 32);
            int want = step < 1 || step > 1000 ? -2 : count < 1 || count > 30 ? -3 : count;
            int got = new LayeredTree().sow(262144, plan, 0);
            if (got != want) {
                due("sow(262144, " + plan + ", 0)", got, want);
            }
        }
    }

    private static void sowAnswersHowManyAreHeld() {
        sows(NONE, 8, 1, 1, 0);
        sows(NONE, 8, 1, 8, 0);
        sows(NONE, 8, 1, 9, 0);
        sows(tableOf(10), 4096, 1, 30, 0);
        sows(tableOf(11), 4096, 1, 30, 0);
        sows(tableOf(30), 512, 1, 30, 0);
        sows(tableOf(40), 512, 1, 30, 0);
        sows(tableOf(40), 8, 1, 8, 0);
    }

    // ---- Promises 6 to 18 ----

    private static void sizeFrom0To40() {
        LayeredTree x = new LayeredTree();
        for (int k = 0; k < 40; k++) {
            due("size", x.size(), k);
            due("put", x.put(262144 + 5000 * k, k), 1);
        }
        due("size", x.size(), 40);
        due("put the 41st", x.put(8, 0), -2);
        due("size", x.size(), 40);
        due("put a held word", x.put(262144, 0), 0);
        due("size", x.size(), 40);
        for (int k = 39; k >= 0; k--) {
            due("remove", x.remove(262144 + 5000 * k), 0);
            due("size", x.size(), k);
        }
        due("remove from none", x.remove(262144), -2);
        due("clear none", x.clear(1), 0);
        due("size", x.size(), 0);
    }

    private static void hasHeldOrNot() {
        for (String letters : LONG_WORDS) {
            Table all = chain(letters);
            for (int length = 1; length <= 6; length++) {
                int word = row(letters.substring(0, length));
                noChange(all, "has(" + word + ")", x -> x.has(word), 1);
                noChange(all.without(word), "has(" + word + ")", x -> x.has(word), 0);
                noChange(NONE.with(word, 5), "has one beside it", x -> x.has(word ^ 1), 0);
            }
        }
        for (int word : FULL.words()) {
            noChange(FULL, "has(" + word + ")", x -> x.has(word), 1);
            noChange(FULL.without(word), "has(" + word + ")", x -> x.has(word), 0);
        }
        // The value is no sign of being held.
        noChange(NONE.with(8, 0), "has a word with the value 0", x -> x.has(8), 1);
    }

    private static void getHeldOrNot() {
        for (String letters : LONG_WORDS) {
            Table all = chain(letters);
            for (int length = 1; length <= 6; length++) {
                int value = 1 << length;
                int word = row(letters.substring(0, length));
                noChange(all, "get(" + word + ")", x -> x.get(word), value);
                noChange(all.without(word), "get(" + word + ")", x -> x.get(word), 0);
                noChange(NONE.with(word, 5), "get one beside it", x -> x.get(word ^ 1), 0);
            }
        }
        LayeredTree x = NONE.with(8, 5).make();
        due("remove", x.remove(8), 0);
        due("get what was held", x.get(8), 0);
        due("put", x.put(8, 6), 1);
        due("clear", x.clear(8), 1);
        due("get what was held", x.get(8), 0);
    }

    private static void firstAndLastOfNoneAndMore() {
        noChange(NONE, "first", x -> x.first(), -1);
        noChange(NONE, "last", x -> x.last(), -1);
        for (int[] ends : ENDS) {
            for (int word : ends) {
                Table only = NONE.with(word, 5);
                noChange(only, "first", x -> x.first(), word);
                noChange(only, "last", x -> x.last(), word);
            }
        }
        noChange(FULL, "first", x -> x.first(), 8);
        noChange(FULL, "last", x -> x.last(), 524287);
        LayeredTree x = tableOf(40).make();
        for (int k = 0; k < 40; k++) {
            due("first", x.first(), 512 + k);
            due("last", x.last(), 551);
            due("remove", x.remove(512 + k), 0);
        }
        due("first of none", x.first(), -1);
        due("last of none", x.last(), -1);
        LayeredTree y = tableOf(40).make();
        for (int k = 39; k >= 0; k--) {
            due("first", y.first(), 512);
            due("last", y.last(), 512 + k);
            due("remove", y.remove(512 + k), 0);
        }
        due("first of none", y.first(), -1);
        due("last of none", y.last(), -1);
    }

    private static void nextUpToTheLast() {
        noChange(NONE, "next", x -> x.next(8), -2);
        noChange(NONE, "next", x -> x.next(524287), -2);
        for (int size : new int[] {1, 2, 39, 40}) {
            Table table = tableOf(size);
            int last = 512 + size - 1;
            noChange(table, "next in front", x -> x.next(8), 512);
            noChange(table, "next just in front", x -> x.next(64), 512);
            noChange(table, "next of the first", x -> x.next(512), size > 1 ? 513 : -2);
            noChange(table, "next below the first", x -> x.next(row("0000")), size > 1 ? 513 : -2);
            noChange(table, "next below all before the last", x -> x.next(size > 1 ? (last - 1) * 8 + 7 : 64), last);
            noChange(table, "next of the last", x -> x.next(last), -2);
            noChange(table, "next below the last", x -> x.next(last * 8), -2);
            noChange(table, "next just behind", x -> x.next(last + 1), -2);
            noChange(table, "next far behind", x -> x.next(524287), -2);
        }
    }

    private static void previousDownToTheFirst() {
        noChange(NONE, "previous", x -> x.previous(8), -2);
        noChange(NONE, "previous", x -> x.previous(524287), -2);
        for (int size : new int[] {1, 2, 39, 40}) {
            Table table = tableOf(size);
            int last = 512 + size - 1;
            noChange(table, "previous in front", x -> x.previous(8), -2);
            noChange(table, "previous just in front", x -> x.previous(64), -2);
            noChange(table, "previous of the first", x -> x.previous(512), -2);
            noChange(table, "previous below the first", x -> x.previous(row("0000")), 512);
            noChange(table, "previous of the second", x -> x.previous(513), 512);
            noChange(table, "previous of the last", x -> x.previous(last), size > 1 ? last - 1 : -2);
            noChange(table, "previous below the last", x -> x.previous(last * 8), last);
            noChange(table, "previous just behind", x -> x.previous(last + 1), last);
            noChange(table, "previous far behind", x -> x.previous(524287), last);
        }
    }

    private static void rankFrom0To40() {
        for (int size : new int[] {0, 1, 39, 40}) {
            Table table = tableOf(size);
            for (int k = 0; k <= size; k++) {
                int place = k;
                noChange(table, "rank(" + (512 + place) + ")", x -> x.rank(512 + place), place);
            }
            noChange(table, "rank in front", x -> x.rank(8), 0);
            noChange(table, "rank just in front", x -> x.rank(64), 0);
            noChange(table, "rank far behind", x -> x.rank(524287), size);
        }
    }

    private static void selectFrom0To39() {
        for (int size : new int[] {0, 1, 2, 39, 40}) {
            Table table = tableOf(size);
            for (int k = 0; k < size; k++) {
                int place = k;
                noChange(table, "select(" + place + ")", x -> x.select(place), 512 + place);
            }
            for (int k : new int[] {MIN, MIN + 1, -40, -39, -1, size, size + 1, 40, 41, 512, MAX - 1, MAX}) {
                noChange(table, "select(" + k + ")", x -> x.select(k), -1);
            }
        }
        LayeredTree x = tableOf(40).make();
        due("select(39)", x.select(39), 551);
        due("remove", x.remove(512), 0);
        due("select(39), 39 held", x.select(39), -1);
        due("select(38), 39 held", x.select(38), 551);
        due("clear", x.clear(1), 39);
        due("select(0), none held", x.select(0), -1);
    }

    private static void countFrom0To40() {
        for (int size : new int[] {0, 1, 7, 8, 9, 39, 40}) {
            Table table = tableOf(size);
            noChange(table, "count(1)", x -> x.count(1), size);
            noChange(table, "count(0)", x -> x.count(row("0")), size);
            noChange(table, "count(00)", x -> x.count(row("00")), Math.min(size, 8));
            noChange(table, "count(01)", x -> x.count(row("01")), Math.max(0, Math.min(size - 8, 8)));
            noChange(table, "count(04)", x -> x.count(row("04")), Math.max(0, size - 32));
            noChange(table, "count(05)", x -> x.count(row("05")), 0);
            noChange(table, "count(000)", x -> x.count(512), size > 0 ? 1 : 0);
            noChange(table, "count(0000)", x -> x.count(4096), 0);
            noChange(table, "count(1)", x -> x.count(row("1")), 0);
        }
    }

    private static void sumOfTwo(int one, int other, int want) {
        Table table = NONE.with(row("30"), one).with(row("37"), other).with(row("2"), 1000).with(row("4"), 1000);
        noChange(table, "sum of " + one + " and " + other, x -> x.sum(row("3")), want);
    }

    private static void sumWraps() {
        sumOfTwo(MAX, 0, MAX);
        sumOfTwo(MAX - 1, 1, MAX);
        sumOfTwo(MAX, 1, MIN);
        sumOfTwo(1, MAX, MIN);
        sumOfTwo(MAX, MAX, -2);
        sumOfTwo(MIN, 0, MIN);
        sumOfTwo(MIN + 1, -1, MIN);
        sumOfTwo(MIN, -1, MAX);
        sumOfTwo(-1, MIN, MAX);
        sumOfTwo(MIN, MIN, 0);
        sumOfTwo(MIN, MAX, -1);
        Table most = NONE;
        Table least = NONE;
        for (int k = 0; k < 40; k++) {
            most = most.with(512 + k, MAX);
            least = least.with(512 + k, MIN + 1);
        }
        noChange(most, "sum of 40 greatest values", x -> x.sum(1), -40);
        noChange(least, "sum of 40 nearly least values", x -> x.sum(1), 40);
        noChange(most, "sum of 8 greatest values", x -> x.sum(row("00")), -8);
    }

    private static void sumOfNoneAndMore() {
        noChange(NONE, "sum(8)", x -> x.sum(8), 0);
        noChange(FULL, "sum of an unheld row", x -> x.sum(row("71")), 0);
        noChange(FULL, "sum of one", x -> x.sum(row("333")), 129);
        noChange(FULL, "sum of a row above one", x -> x.sum(row("5")), 138);
        noChange(tableOf(40), "sum of 8", x -> x.sum(row("04")), 4380);
        noChange(tableOf(39), "sum of 7", x -> x.sum(row("04")), 3829);
    }

    private static void longestFromItselfToNone() {
        for (String letters : LONG_WORDS) {
            Table all = chain(letters);
            for (int asked = 1; asked <= 6; asked++) {
                int word = row(letters.substring(0, asked));
                noChange(all, "longest(" + word + ")", x -> x.longest(word), word);
                noChange(NONE, "longest(" + word + ")", x -> x.longest(word), -2);
                for (int length = 1; length <= 6; length++) {
                    int held = row(letters.substring(0, length));
                    int want = length <= asked ? held : -2;
                    noChange(NONE.with(held, 5), "longest(" + word + ")", x -> x.longest(word), want);
                    noChange(NONE.with(held ^ 1, 5), "longest(" + word + ")", x -> x.longest(word), -2);
                    int upTo = Math.min(asked, length);
                    noChange(chainUpTo(letters, length), "longest(" + word + ")", x -> x.longest(word),
                        row(letters.substring(0, upTo)));
                }
            }
        }
    }

    private static void commonFromNothingToAll() {
        String stem = "355263";
        for (int shared = 0; shared < 6; shared++) {
            int one = row(stem);
            // The letter behind the shared ones differs, so that just these are shared.
            int other = one ^ (1 << (3 * (5 - shared)));
            Table two = NONE.with(one, 1).with(other, 2);
            int want = row(stem.substring(0, shared));
            for (int length = 0; length <= shared; length++) {
                int row = row(stem.substring(0, length));
                noChange(two, "common(" + row + ")", x -> x.common(row), want);
            }
            for (int length = shared + 1; length <= 6; length++) {
                int row = row(stem.substring(0, length));
                noChange(two, "common(" + row + ")", x -> x.common(row), one);
            }
        }
        noChange(NONE, "common(1)", x -> x.common(1), -2);
        noChange(FULL, "common of an unheld row", x -> x.common(row("71")), -2);
        noChange(FULL, "common below a held word", x -> x.common(row("3330")), -2);
        noChange(FULL, "common of a row above one", x -> x.common(row("5")), row("55555"));
        noChange(tableOf(8), "common of 8", x -> x.common(1), row("00"));
        noChange(tableOf(9), "common of 9", x -> x.common(1), row("0"));
        noChange(tableOf(40), "common of 40", x -> x.common(1), row("0"));
        noChange(tableOf(39).with(9, 1), "common of 40", x -> x.common(1), 1);
        noChange(tableOf(39).with(8, 1), "common of 40", x -> x.common(1), 8);
    }

    // ---- Promise 19 ----

    private static void sowPassesOverTheGaps() {
        int[][] rows = {
            {15, 1, 1}, {15, 1, 2}, {14, 1, 2}, {14, 1, 3}, {15, 48, 2}, {15, 49, 2}, {15, 48, 3}, {15, 2, 24},
            {15, 2, 25}, {15, 2, 26}, {15, 7, 8}, {14, 2, 25}, {14, 2, 26}, {14, 25, 2}, {14, 25, 3},
            {127, 1, 2}, {126, 1, 2}, {126, 1, 3}, {127, 384, 2}, {127, 385, 2}, {127, 384, 3}, {127, 55, 8}, {127, 55, 7},
            {1023, 1, 2}, {1022, 1, 2}, {1022, 1, 3}, {1023, 439, 7}, {1023, 439, 8}, {1023, 438, 8}, {1023, 438, 9},
            {8191, 1, 2}, {8190, 1, 2}, {8190, 1, 3}, {8172, 946, 26}, {8172, 946, 27}, {8171, 946, 27}, {8171, 946, 28},
            {65535, 1, 2}, {65534, 1, 2}, {65534, 1, 3}, {65535, 1000, 30},
            {524287, 1, 1}, {524287, 1, 2}, {524286, 1, 2}, {524286, 1, 3}, {524287, 1000, 30},
            {495287, 1000, 30}, {495288, 1000, 30}, {495287, 1000, 29}, {8, 1000, 30}, {15, 1000, 30}, {8, 139, 30}};
        for (int[] row : rows) {
            sows(NONE, row[0], row[1], row[2], 500);
            sows(tableOf(39), row[0], row[1], row[2], 500);
            sows(tableOf(40), row[0], row[1], row[2], 500);
            sows(FULL_BUT_ONE, row[0], row[1], row[2], 500);
            sows(FULL, row[0], row[1], row[2], 500);
        }
    }

    private static void theKthNumberHasValuePlusK() {
        Table afterGap = NONE.with(14, 100).with(64, 105);
        change(NONE, "sow over a gap", x -> x.sow(14, plan(10, 6), 100), 2, afterGap);
        Table changed = NONE.with(8, 1).with(10, 1);
        change(changed, "sow over held words", x -> x.sow(8, plan(1, 4), 20), 4,
            NONE.with(8, 20).with(9, 21).with(10, 22).with(11, 23));
        // 39 held: the first new word has the last room, the next is left out, held ones behind it are changed.
        Table before = tableOf(40).without(514);
        change(before, "sow when the room ends", x -> x.sow(512, plan(2, 22), 50), 40, sown(before, 512, 2, 22, 50));
        due("its last held one", sown(before, 512, 2, 22, 50).held.get(Integer.toOctalString(550)), 69);
    }

    private static void sowValuesWrap() {
        for (int value : new int[] {MIN, MIN + 1, -30, -29, -1, 0, MAX - 30, MAX - 29, MAX - 28, MAX - 1, MAX}) {
            sows(NONE, 262144, 1, 30, value);
            sows(FULL, 262144, 1, 30, value);
            sows(NONE, 15, 7, 30, value);
        }
        change(NONE, "sow up to the greatest value", x -> x.sow(8, plan(1, 2), MAX - 1), 2,
            NONE.with(8, MAX - 1).with(9, MAX));
        change(NONE, "sow over the greatest value", x -> x.sow(8, plan(1, 2), MAX), 2,
            NONE.with(8, MAX).with(9, MIN));
    }

    private static void heldWordsGetValuesWhenFull() {
        Table full = tableOf(40);
        change(full, "sow over held words alone", x -> x.sow(512, plan(1, 30), 7), 40, sown(full, 512, 1, 30, 7));
        change(full, "sow over the last held word", x -> x.sow(551, plan(1, 30), 7), 40, full.with(551, 7));
        change(full, "sow in front of held words", x -> x.sow(127, plan(385, 2), 7), 40, full.with(512, 8));
        change(full, "put", x -> x.put(551, 7), 0, full.with(551, 7));
        noChange(full, "sow beside the held words", x -> x.sow(552, plan(1, 30), 7), 40);
        Table holed = full.without(530).with(9, 3);
        change(holed, "sow over a word left out", x -> x.sow(529, plan(1, 3), 7), 40, holed.with(529, 7).with(531, 9));
    }

    // ---- The run ----

    private static void run(String told, Runnable test) {
        sentence = told;
        test.run();
    }

    private static void runTerms() {
        run("the numbers of words are 8 .. 15, 64 .. 127, ..", BoundaryTest::endsOfTheNumbersOfWords);
        run("a number is good if it is that of a word, far ones", BoundaryTest::farNumbers);
        run("a number is good if it is that of a word, all near ones", BoundaryTest::everyNumberNearThem);
        run("1 is the number of the empty row, no word", BoundaryTest::oneIsNoWord);
        run("a row's number is good if it is that of a word or 1", BoundaryTest::oneIsARow);
        run("words are ordered letter by letter; a beginning comes before", BoundaryTest::wordsAreOrdered);
        run("words are ordered, all 40", BoundaryTest::orderOfAFullTable);
        run("the table holds at most 40 words, put", BoundaryTest::atMost40ByPut);
        run("the table holds at most 40 words, sow", BoundaryTest::atMost40BySow);
        run("the table holds at most 40 words, after some were taken out", BoundaryTest::atMost40AfterTakingOut);
        run("each with a value, an int", BoundaryTest::valuesAreInts);
        run("any row of its first letters (perhaps none, perhaps all)", BoundaryTest::beginningsFromNoneToAll);
        run("any row of its first letters, and no other", BoundaryTest::rowsThatAreNoBeginning);
        run("no question changes anything", BoundaryTest::noQuestionChangesAnything);
        run("a refused call changes nothing", BoundaryTest::refusedCallsChangeNothing);
        run("a refused call changes nothing, nor for later calls", BoundaryTest::refusedCallsLeaveNoTrace);
        run("the tests are made in the order named", BoundaryTest::testsAreMadeInOrder);
        run("at most 512 calls, the last one", BoundaryTest::the512thCall);
        run("at most 512 calls, all of them changes", BoundaryTest::all512CallsChangeTheTable);
    }

    private static void runPromises() {
        run("promise 1: no words", BoundaryTest::aNewObjectHoldsNothing);
        run("promise 2: 1 if it was put in, 0 if its value was changed", BoundaryTest::putAnswers);
        run("promise 3: -2 if it is not held; otherwise 0", BoundaryTest::removeAnswers);
        run("promise 3: takes a word out, not what it begins", BoundaryTest::removeLeavesBeginnings);
        run("promise 4: answers how many those were", BoundaryTest::clearAnswers);
        run("promise 5: -2 if step is not in 1 .. 1000", BoundaryTest::stepFrom1To1000);
        run("promise 5: -3 if count is not in 1 .. 30", BoundaryTest::countFrom1To30);
        run("promise 5: a negative plan is the case of -2", BoundaryTest::aNegativePlan);
        run("promise 5: plan is 32 * step + count", BoundaryTest::everyPlanNearTheEnds);
        run("promise 5: answers how many words are held now", BoundaryTest::sowAnswersHowManyAreHeld);
        run("promise 6: how many words are held", BoundaryTest::sizeFrom0To40);
        run("promise 7: 1 if the word is held, otherwise 0", BoundaryTest::hasHeldOrNot);
        run("promise 8: 0 if word is not good or not held", BoundaryTest::getHeldOrNot);
        run("promises 9 and 10: -1 if none is", BoundaryTest::firstAndLastOfNoneAndMore);
        run("promise 11: -2 if there is none", BoundaryTest::nextUpToTheLast);
        run("promise 12: -2 if there is none", BoundaryTest::previousDownToTheFirst);
        run("promise 13: how many held words come before", BoundaryTest::rankFrom0To40);
        run("promise 14: -1 if there is none", BoundaryTest::selectFrom0To39);
        run("promise 15: how many held words have a row as a beginning", BoundaryTest::countFrom0To40);
        run("promise 16: wrapping like an int", BoundaryTest::sumWraps);
        run("promise 16: all held words that have a row as a beginning", BoundaryTest::sumOfNoneAndMore);
        run("promise 17: perhaps itself; -2 if there is none", BoundaryTest::longestFromItselfToNone);
        run("promise 18: the longest row; -2 if there is no such word", BoundaryTest::commonFromNothingToAll);
        run("promise 19: passed over, and the row goes on behind it", BoundaryTest::sowPassesOverTheGaps);
        run("promise 19: the k-th number has the value value + k", BoundaryTest::theKthNumberHasValuePlusK);
        run("promise 19: value + k at the ends of int", BoundaryTest::sowValuesWrap);
        run("promise 19: a held word gets its value also when 40 are held", BoundaryTest::heldWordsGetValuesWhenFull);
    }

    public static void main(String[] args) {
        runTerms();
        runPromises();
        System.out.println(wrong == 0 ? "all answers are as due" : wrong + " answers are not as due");
        if (wrong != 0) {
            System.exit(1);
        }
    }
}
