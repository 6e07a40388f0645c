/** For each promise of the document: ordinary inputs, the edges that it names, and wrong inputs. */
public final class PromiseTest {
    private static final int[] NOT_WORDS = {
        Integer.MIN_VALUE, -524287, -64, -8, -1, 0, 1, 2, 7, 16, 17, 63, 128, 511, 1024, 4095,
        8192, 32767, 65536, 262143, 524288, 1048576, Integer.MAX_VALUE};
    private static final int[] EDGE_WORDS = {
        8, 15, 64, 127, 512, 1023, 4096, 8191, 32768, 65535, 262144, 524287};

    private static int wrong = 0;
    private static String promise = "";

    private static void due(String call, int got, int want) {
        if (got != want) {
            wrong++;
            System.out.println(promise + ": " + call + " answered " + got + ", due is " + want);
        }
    }

    private static void holds(String what, boolean condition) {
        due(what, condition ? 1 : 0, 1);
    }

    /** The number of a row that is written as letters, so that tests can be read. */
    private static int row(String letters) {
        int number = 1;
        for (char letter : letters.toCharArray()) {
            number = number * 8 + (letter - '0');
        }
        return number;
    }

    private static LayeredTree treeOf(String... words) {
        LayeredTree x = new LayeredTree();
        for (int i = 0; i < words.length; i++) {
            due("put " + words[i], x.put(row(words[i]), i + 1), 1);
        }
        return x;
    }

    /** 40 words of three letters, 512 to 551, each with its own number as value. */
    private static LayeredTree fullTree() {
        LayeredTree x = new LayeredTree();
        for (int word = 512; word < 552; word++) {
            due("put(" + word + ")", x.put(word, word), 1);
        }
        return x;
    }

    /** All that can be told of an object: its words in order and their values. */
    private static String state(LayeredTree x) {
        StringBuilder text = new StringBuilder();
        text.append(x.size());
        for (int k = 0; k < x.size(); k++) {
            int word = x.select(k);
            text.append(' ').append(word).append('=').append(x.get(word));
        }
        return text.toString();
    }

    private static void newObject() {
        LayeredTree x = new LayeredTree();
        due("size", x.size(), 0);
        due("first", x.first(), -1);
        due("last", x.last(), -1);
        due("select(0)", x.select(0), -1);
        due("count(1)", x.count(1), 0);
        due("sum(1)", x.sum(1), 0);
        due("common(1)", x.common(1), -2);
        due("clear(1)", x.clear(1), 0);
        for (int word : EDGE_WORDS) {
            due("has(" + word + ")", x.has(word), 0);
            due("get(" + word + ")", x.get(word), 0);
            due("remove(" + word + ")", x.remove(word), -2);
        }
        LayeredTree other = treeOf("0");
        due("objects are apart", x.size(), 0);
        due("objects are apart", other.size(), 1);
    }

    private static void put() {
        LayeredTree x = new LayeredTree();
        for (int word : EDGE_WORDS) {
            due("put(" + word + ")", x.put(word, -word), 1);
        }
        for (int word : EDGE_WORDS) {
            due("get(" + word + ")", x.get(word), -word);
            due("put again(" + word + ")", x.put(word, word + 1), 0);
            due("get again(" + word + ")", x.get(word), word + 1);
        }
        due("size", x.size(), EDGE_WORDS.length);
        String before = state(x);
        for (int number : NOT_WORDS) {
            due("put(" + number + ")", x.put(number, 5), -1);
        }
        holds("refused puts change nothing", before.equals(state(x)));
    }

    private static void putWhenFull() {
        LayeredTree x = fullTree();
        String before = state(x);
        due("put 41st", x.put(552, 1), -2);
        due("put 41st in front", x.put(8, 1), -2);
        due("a wrong number goes before a full table", x.put(16, 1), -1);
        holds("refused puts change nothing", before.equals(state(x)));
        due("a held word gets its value", x.put(551, 7), 0);
        due("get", x.get(551), 7);
        due("remove", x.remove(530), 0);
        due("put after remove", x.put(8, 1), 1);
        due("size", x.size(), 40);
        due("first", x.first(), 8);
        due("put when full again", x.put(530, 1), -2);
    }

    private static void remove() {
        LayeredTree x = treeOf("0", "00", "01", "1", "777777");
        String before = state(x);
        for (int number : NOT_WORDS) {
            due("remove(" + number + ")", x.remove(number), -1);
        }
        due("remove unheld", x.remove(row("000")), -2);
        due("remove unheld", x.remove(row("7")), -2);
        holds("refused removes change nothing", before.equals(state(x)));
        due("remove 00", x.remove(row("00")), 0);
        due("remove 00 again", x.remove(row("00")), -2);
        holds("the others stay", state(x).equals("4 8=1 65=3 9=4 524287=5"));
        due("remove last", x.remove(524287), 0);
        due("remove first", x.remove(8), 0);
        holds("a beginning goes, not what it begins", state(x).equals("2 65=3 9=4"));
        due("put after remove", x.put(8, 9), 1);
        due("get", x.get(8), 9);
    }

    private static void clear() {
        LayeredTree x = treeOf("0", "00", "01", "010", "012345", "1", "10", "777777");
        String before = state(x);
        for (int number : NOT_WORDS) {
            if (number != 1) {
                due("clear(" + number + ")", x.clear(number), -1);
            }
        }
        due("clear none", x.clear(row("2")), 0);
        due("clear none", x.clear(row("0100")), 0);
        holds("these change nothing", before.equals(state(x)));
        due("clear 01", x.clear(row("01")), 3);
        holds("the others stay", state(x).equals("5 8=1 64=2 9=6 72=7 524287=8"));
        due("clear whole word", x.clear(524287), 1);
        due("clear 1", x.clear(row("1")), 2);
        holds("the others stay", state(x).equals("2 8=1 64=2"));
        due("clear all", x.clear(1), 2);
        due("size", x.size(), 0);
        LayeredTree full = fullTree();
        due("clear a full table", full.clear(1), 40);
        due("put after clear", full.put(8, 1), 1);
    }

    private static void sow() {
        LayeredTree x = new LayeredTree();
        due("sow 3 by 2", x.sow(8, 2 * 32 + 3, 50), 3);
        holds("words and values", state(x).equals("3 8=50 10=51 12=52"));
        due("sow over held ones", x.sow(9, 32 + 3, 70), 5);
        holds("words and values", state(x).equals("5 8=50 9=70 10=71 11=72 12=52"));
        due("least plan", x.sow(8, 33, -1), 5);
        due("get", x.get(8), -1);
        due("greatest plan", x.sow(262144, 1000 * 32 + 30, 0), 35);
        due("last of it", x.get(262144 + 29000), 29);
        due("values wrap", x.sow(14, 32 + 2, Integer.MAX_VALUE), 37);
        due("get", x.get(15), Integer.MIN_VALUE);
    }

    private static void sowRefused() {
        LayeredTree x = treeOf("0", "1");
        String before = state(x);
        for (int number : NOT_WORDS) {
            due("sow(" + number + ")", x.sow(number, 33, 0), -1);
            due("word before plan", x.sow(number, -1, 0), -1);
        }
        int[] badSteps = {Integer.MIN_VALUE, -1056, -33, -32, -31, -1, 0, 1, 30, 31,
            1001 * 32, 1001 * 32 + 1, 1001 * 32 + 31, Integer.MAX_VALUE};
        for (int plan : badSteps) {
            due("sow plan " + plan, x.sow(64, plan, 0), -2);
        }
        int[] badCounts = {32, 63, 64, 95, 1000 * 32, 1000 * 32 + 31};
        for (int plan : badCounts) {
            due("sow plan " + plan, x.sow(64, plan, 0), -3);
        }
        holds("refused sows change nothing", before.equals(state(x)));
    }

    private static void size() {
        LayeredTree x = new LayeredTree();
        for (int i = 0; i < 40; i++) {
            due("size", x.size(), i);
            x.put(4096 + 7 * i, 0);
        }
        due("size", x.size(), 40);
        x.put(4096, 1);
        due("size after a change", x.size(), 40);
        x.put(8, 1);
        due("size after a refusal", x.size(), 40);
        x.remove(4096);
        due("size after remove", x.size(), 39);
        x.clear(1);
        due("size after clear", x.size(), 0);
    }

    private static void has() {
        LayeredTree x = treeOf("012", "0123");
        due("has", x.has(row("012")), 1);
        due("has", x.has(row("0123")), 1);
        due("has a beginning", x.has(row("01")), 0);
        due("has a longer one", x.has(row("01234")), 0);
        due("has same letters, longer", x.has(row("0012")), 0);
        for (int number : NOT_WORDS) {
            due("has(" + number + ")", x.has(number), -1);
        }
    }

    /** Asks has about every number near those of words, which tells good numbers from others. */
    private static void goodNumbers() {
        LayeredTree x = new LayeredTree();
        int calls = 0;
        for (int number = -600; number < 524900; number++) {
            if (calls == 500) {
                x = new LayeredTree();
                calls = 0;
            }
            String octal = number > 0 ? Integer.toOctalString(number) : "";
            boolean good = octal.startsWith("1") && octal.length() >= 2 && octal.length() <= 7;
            due("has(" + number + ")", x.has(number), good ? 0 : -1);
            calls++;
        }
    }

    private static void get() {
        LayeredTree x = new LayeredTree();
        x.put(8, Integer.MIN_VALUE);
        x.put(64, Integer.MAX_VALUE);
        x.put(512, 0);
        x.put(9, -1);
        due("get", x.get(8), Integer.MIN_VALUE);
        due("get", x.get(64), Integer.MAX_VALUE);
        due("get", x.get(512), 0);
        due("get", x.get(9), -1);
        due("get unheld", x.get(4096), 0);
        due("get unheld", x.get(10), 0);
        for (int number : NOT_WORDS) {
            due("get(" + number + ")", x.get(number), 0);
        }
        x.remove(9);
        due("get removed", x.get(9), 0);
    }

    private static void firstAndLast() {
        LayeredTree x = treeOf("3");
        due("first of one", x.first(), row("3"));
        due("last of one", x.last(), row("3"));
        x.put(row("30"), 0);
        due("a beginning is first", x.first(), row("3"));
        due("a longer one is last", x.last(), row("30"));
        x.put(row("277777"), 0);
        due("letters go before length", x.first(), row("277777"));
        x.put(row("4"), 0);
        due("letters go before length", x.last(), row("4"));
        x.put(row("000000"), 0);
        due("first", x.first(), row("000000"));
        x.put(row("0"), 0);
        due("first", x.first(), row("0"));
        x.remove(row("4"));
        due("last after remove", x.last(), row("30"));
        x.clear(1);
        due("first of none", x.first(), -1);
        due("last of none", x.last(), -1);
    }

    private static void nextAndPrevious() {
        LayeredTree x = treeOf("0", "00", "007", "01", "1", "123456", "7");
        int[] inOrder = {row("0"), row("00"), row("007"), row("01"), row("1"), row("123456"), row("7")};
        for (int i = 0; i < inOrder.length; i++) {
            due("next", x.next(inOrder[i]), i + 1 < inOrder.length ? inOrder[i + 1] : -2);
            due("previous", x.previous(inOrder[i]), i > 0 ? inOrder[i - 1] : -2);
        }
        due("next of unheld", x.next(row("000000")), row("007"));
        due("previous of unheld", x.previous(row("000000")), row("00"));
        due("next of unheld", x.next(row("12345")), row("123456"));
        due("previous of unheld", x.previous(row("12345")), row("1"));
        due("next of unheld", x.next(row("123457")), row("7"));
        due("previous of unheld", x.previous(row("123457")), row("123456"));
        due("next behind all", x.next(row("70")), -2);
        due("previous behind all", x.previous(row("777777")), row("7"));
        x.remove(row("0"));
        due("next of unheld in front", x.next(row("0")), row("00"));
        due("previous of unheld in front", x.previous(row("0")), -2);
        due("previous is strict", x.previous(row("00")), -2);
        for (int number : NOT_WORDS) {
            due("next(" + number + ")", x.next(number), -1);
            due("previous(" + number + ")", x.previous(number), -1);
        }
    }

    private static void nextAndPreviousOfFull() {
        LayeredTree x = fullTree();
        due("next of the last", x.next(551), -2);
        due("next behind the last", x.next(552), -2);
        due("previous behind the last", x.previous(552), 551);
        due("previous of the first", x.previous(512), -2);
        due("next in front", x.next(8), 512);
    }

    private static void rank() {
        LayeredTree x = treeOf("0", "00", "007", "01", "1", "123456", "7");
        due("rank", x.rank(row("0")), 0);
        due("rank", x.rank(row("00")), 1);
        due("rank", x.rank(row("007")), 2);
        due("rank", x.rank(row("7")), 6);
        due("rank of unheld", x.rank(row("000000")), 2);
        due("rank of unheld", x.rank(row("12345")), 5);
        due("rank of unheld", x.rank(row("777777")), 7);
        for (int number : NOT_WORDS) {
            due("rank(" + number + ")", x.rank(number), -1);
        }
        due("rank in a full table", fullTree().rank(552), 40);
    }

    private static void select() {
        LayeredTree x = treeOf("7", "123456", "1", "01", "007", "00", "0");
        String[] inOrder = {"0", "00", "007", "01", "1", "123456", "7"};
        for (int k = 0; k < inOrder.length; k++) {
            due("select(" + k + ")", x.select(k), row(inOrder[k]));
        }
        int[] none = {Integer.MIN_VALUE, -40, -1, 7, 39, 40, 41, Integer.MAX_VALUE};
        for (int k : none) {
            due("select(" + k + ")", x.select(k), -1);
        }
        LayeredTree full = fullTree();
        due("select(39)", full.select(39), 551);
        due("select(40)", full.select(40), -1);
        full.remove(551);
        due("select(39) after remove", full.select(39), -1);
    }

    private static void countAndSum() {
        LayeredTree x = treeOf("0", "00", "01", "010", "012345", "1", "10", "777777");
        due("count all", x.count(1), 8);
        due("sum all", x.sum(1), 36);
        due("count 0", x.count(row("0")), 5);
        due("sum 0", x.sum(row("0")), 15);
        due("count 01", x.count(row("01")), 3);
        due("sum 01", x.sum(row("01")), 12);
        due("count unheld row", x.count(row("0123")), 1);
        due("sum unheld row", x.sum(row("0123")), 5);
        due("count whole word", x.count(row("012345")), 1);
        due("sum whole word", x.sum(row("777777")), 8);
        due("count none", x.count(row("2")), 0);
        due("sum none", x.sum(row("2")), 0);
        due("count none", x.count(row("012344")), 0);
        for (int number : NOT_WORDS) {
            if (number != 1) {
                due("count(" + number + ")", x.count(number), -1);
                due("sum(" + number + ")", x.sum(number), 0);
            }
        }
        x.put(row("70"), Integer.MAX_VALUE);
        x.put(row("71"), Integer.MAX_VALUE);
        due("sum wraps", x.sum(row("7")), 6);
        due("count of a full table", fullTree().count(1), 40);
    }

    private static void longest() {
        LayeredTree x = treeOf("0", "012", "012345", "1234", "77");
        due("itself", x.longest(row("012345")), row("012345"));
        due("a beginning", x.longest(row("012344")), row("012"));
        due("a beginning", x.longest(row("01")), row("0"));
        due("itself, one letter", x.longest(row("0")), row("0"));
        due("a beginning", x.longest(row("077777")), row("0"));
        due("not what it begins", x.longest(row("7")), -2);
        due("not what it begins", x.longest(row("123")), -2);
        due("none", x.longest(row("222222")), -2);
        x.remove(row("012"));
        due("the next shorter one", x.longest(row("012344")), row("0"));
        for (int number : NOT_WORDS) {
            due("longest(" + number + ")", x.longest(number), -1);
        }
    }

    private static void common() {
        LayeredTree x = treeOf("012345");
        due("of one word the whole word", x.common(1), row("012345"));
        due("of one word the whole word", x.common(row("01")), row("012345"));
        due("of a whole word", x.common(row("012345")), row("012345"));
        x.put(row("012344"), 0);
        due("five letters", x.common(1), row("01234"));
        x.put(row("01277"), 0);
        due("longer than the row", x.common(row("0")), row("012"));
        x.put(row("012"), 0);
        due("a held word begins the others", x.common(row("01")), row("012"));
        due("a narrower row", x.common(row("0123")), row("01234"));
        x.put(row("1"), 0);
        due("nothing shared", x.common(1), 1);
        due("still shared below 0", x.common(row("0")), row("012"));
        x.put(row("0"), 0);
        due("the row itself", x.common(row("0")), row("0"));
        due("none there", x.common(row("2")), -2);
        due("none there", x.common(row("10")), -2);
        for (int number : NOT_WORDS) {
            if (number != 1) {
                due("common(" + number + ")", x.common(number), -1);
            }
        }
        due("none at all", new LayeredTree().common(1), -2);
        due("long words without a shared letter", treeOf("012345", "712345").common(1), 1);
    }

    private static void sowOrderAndLimits() {
        LayeredTree x = new LayeredTree();
        due("passes over and goes on", x.sow(14, 10 * 32 + 6, 100), 2);
        holds("values count what is passed over", state(x).equals("2 64=105 14=100"));
        LayeredTree end = new LayeredTree();
        due("runs out of the words", end.sow(524287, 1000 * 32 + 30, 0), 1);
        LayeredTree gap = new LayeredTree();
        due("over a gap", gap.sow(127, 385 * 32 + 3, 1), 3);
        holds("over a gap", gap.get(512) == 2 && gap.get(897) == 3);

        LayeredTree full = fullTree();
        full.remove(520);
        due("one place, the first new word has it", full.sow(552, 32 + 3, 0), 40);
        due("has", full.has(552), 1);
        due("has", full.has(553), 0);
        due("held words get values when full", full.sow(518, 32 + 5, 900), 40);
        due("before the one left out", full.get(519), 901);
        due("the one left out", full.has(520), 0);
        due("behind the one left out", full.get(521), 903);
        due("put too gives a held word its value", full.put(512, -3), 0);
        due("get", full.get(512), -3);
    }

    private static void questionsChangeNothing() {
        LayeredTree x = treeOf("0", "00", "01", "010", "012345", "1", "10", "777777");
        String before = state(x);
        int[] asked = {1, 0, 16, 8, 64, 65, 10, 524287, -1};
        for (int number : asked) {
            x.has(number);
            x.get(number);
            x.next(number);
            x.previous(number);
            x.rank(number);
            x.select(number);
            x.count(number);
            x.sum(number);
            x.longest(number);
            x.common(number);
            x.first();
            x.last();
            x.size();
            holds("questions change nothing", before.equals(state(x)));
        }
    }

    private static void run(String name, Runnable test) {
        promise = name;
        test.run();
    }

    public static void main(String[] args) {
        run("promise 1", PromiseTest::newObject);
        run("promise 2", PromiseTest::put);
        run("promise 2, full", PromiseTest::putWhenFull);
        run("promise 3", PromiseTest::remove);
        run("promise 4", PromiseTest::clear);
        run("promise 5", PromiseTest::sow);
        run("promise 5, refused", PromiseTest::sowRefused);
        run("promise 6", PromiseTest::size);
        run("promise 7", PromiseTest::has);
        run("terms, good numbers", PromiseTest::goodNumbers);
        run("promise 8", PromiseTest::get);
        run("promises 9 and 10", PromiseTest::firstAndLast);
        run("promises 11 and 12", PromiseTest::nextAndPrevious);
        run("promises 11 and 12, full", PromiseTest::nextAndPreviousOfFull);
        run("promise 13", PromiseTest::rank);
        run("promise 14", PromiseTest::select);
        run("promises 15 and 16", PromiseTest::countAndSum);
        run("promise 17", PromiseTest::longest);
        run("promise 18", PromiseTest::common);
        run("promise 19", PromiseTest::sowOrderAndLimits);
        run("terms, questions", PromiseTest::questionsChangeNothing);
        System.out.println(wrong == 0 ? "all answers are as due" : wrong + " answers are not as due");
        if (wrong != 0) {
            System.exit(1);
        }
    }
}
