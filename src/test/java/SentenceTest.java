/** Promises 1 to 7: the text, the sentence, its readings and their nodes. */
public final class SentenceTest {
    private static final Due DUE = new Due("SentenceTest");

    public static void main(String[] args) {
        newObject();
        feed();
        feedRefused();
        read();
        readFaults();
        readKeepsWhatItMust();
        wordAt();
        readings();
        nodes();
        node();
        orderOfReadings();
        listedUpTo200();
        DUE.finish();
    }

    private static void newObject() {
        MayBeRead x = new MayBeRead();
        DUE.is("new: count(0)", x.count(0), 1);
        DUE.is("new: wordAt(0)", x.wordAt(0), 'a');
        DUE.is("new: readings()", x.readings(), 1);
        DUE.is("new: means(0)", x.means(0), 0xAAAAAAAAL);
        for (int what : new int[] {1, 2, 3, 11, 12, 13, 14, 15, 16}) {
            DUE.is("new: count(" + what + ")", x.count(what), 0);
        }
        DUE.is("new: leftOver(-1)", x.leftOver(-1), 1);
        DUE.is("new: on()", x.on(), -3);
    }

    private static void feed() {
        MayBeRead x = new MayBeRead();
        DUE.is("feed(1, a with more above)", x.feed(1, 0x7777777777777761L), 1);
        DUE.is("feed(2, &b)", x.feed(2, 0xFFFFFFFFFFFF6226L), 3);
        DUE.is("feed(8, lowest first)", x.feed(8, Due.bytes("|c>d-e|a")), 11);
        DUE.is("read()", x.read(), 11);
        DUE.that("the lowest byte is first", Due.sentence(x).equals("a&b|c>d-e|a"));
        DUE.is("feed(8) of no words", x.feed(8, -1L), 8);
        DUE.is("feed(8) once more", x.feed(8, Long.MIN_VALUE), 16);
        DUE.is("feed(5) up to 21", x.feed(5, 0L), 21);
        DUE.is("count(3)", x.count(3), 21);
    }

    private static void feedRefused() {
        MayBeRead x = new MayBeRead();
        DUE.is("feed(0)", x.feed(0, 97), -4);
        DUE.is("feed(-1)", x.feed(-1, 97), -4);
        DUE.is("feed(MIN)", x.feed(Integer.MIN_VALUE, 97), -4);
        DUE.is("feed(9)", x.feed(9, 97), -6);
        DUE.is("feed(MAX)", x.feed(Integer.MAX_VALUE, 97), -6);
        DUE.is("count(14)", x.count(14), 3);
        DUE.is("count(16)", x.count(16), 2);
        DUE.is("count(3) after refusals", x.count(3), 0);
        x.feed(8, 0);
        x.feed(8, 0);
        DUE.is("feed(6) above 21", x.feed(6, 0), -6);
        DUE.is("count(3) after too many", x.count(3), 16);
        DUE.is("feed(5) still fits", x.feed(5, 0), 21);
        DUE.is("feed(1) when full", x.feed(1, 0), -6);
        DUE.is("feed(0) when full", x.feed(0, 0), -4);
    }

    private static void read() {
        for (String text : new String[] {"a", "e", "!a", "!!!!!!!!!!!!!!!!!!!!a", "(a)", "((((a))))", "!(!a)", "a&b|c>d-e",
            "(a)&(b)&(c)&(d)&(e)", "(((a)&(b))|((c)-(d)))", "((((a)&(b))))", "a&a&a&a&a&a&a&a&a&a&a"}) {
            MayBeRead x = new MayBeRead();
            DUE.is("read() of " + text, Due.read(x, text), text.length());
            DUE.that("its words: " + text, Due.sentence(x).equals(text));
            DUE.is("count(3) after " + text, x.count(3), 0);
        }
    }

    private static void readFaults() {
        String[] texts = {"", "f", "A", "`", " ", "\0", "\u00e1", "\u0080", "&a", "a&", "a&|b", "a!", "a!b", "ab",
            "a(b)", "a)", "(a", "(", ")", "()", "(a))", "(a&)", "!", "!&", "!)", "!!", "a&!", "(a)b", "(a)(b)", "(a)!b",
            "(((((", "(((((a)))))", "((((a)))", "((((a))))&(((((", "a&(((((a", "a(((((", "a&b&c&d&e&a&b&c&d&e&&",
            "a&b&c&d&e&a&b&c&d&e&!", "!!!!!!!!!!!!!!!!!!!!!", "a\u0000", "a+b", "a&b\u00e6c", "\u00ff"};
        int[] places = {0, 0, 0, 0, 0, 0, 0, 0, 0, 2, 2, 1, 1, 1,
            1, 1, 2, 1, 0, 1, 3, 3, 1, 1, 1, 2, 3, 3, 3, 3,
            4, 4, 8, 14, 6, 1, 20,
            21, 21, 1, 1, 3, 0};
        for (int i = 0; i < texts.length; i++) {
            MayBeRead x = Due.of("a-b");
            DUE.is("read() of " + texts[i], Due.read(x, texts[i]), -20 - places[i]);
            DUE.is("count(3) after the fault", x.count(3), 0);
            DUE.that("the sentence stays", Due.sentence(x).equals("a-b"));
            for (int what = 11; what <= 16; what++) {
                DUE.is("a fault is not counted, " + what, x.count(what), 0);
            }
        }
    }

    private static void readKeepsWhatItMust() {
        MayBeRead x = new MayBeRead();
        x.choose(2);
        x.choose(0);
        x.aim(3, 7);
        x.feed(0, 0);
        DUE.is("read() of a&b&c", Due.read(x, "a&b&c"), 5);
        DUE.is("rules stay", x.count(1), 2);
        DUE.is("aims stay", x.count(2), 1);
        DUE.is("refusals stay", x.count(14), 1);
        DUE.is("leftOver(-1) by LEFT", x.leftOver(-1), 1);
        DUE.is("leftOver(0) by LEFT", x.leftOver(0), 1);
        DUE.is("serves(0)", x.serves(0), 0);
        DUE.is("read() of b", Due.read(x, "b"), 1);
        DUE.is("serves(0) of b", x.serves(0), 7);
        DUE.is("nodes(0) of b", x.nodes(0), 1);
        DUE.is("wordAt(1) of b", x.wordAt(1), -9);
    }

    private static void wordAt() {
        MayBeRead x = Due.of("(!a&b|c>d-e)");
        String words = "(!a&b|c>d-e)";
        for (int i = 0; i < words.length(); i++) {
            DUE.is("wordAt(" + i + ")", x.wordAt(i), words.charAt(i));
        }
        DUE.is("wordAt(12)", x.wordAt(12), -9);
        DUE.is("wordAt(-1)", x.wordAt(-1), -9);
        DUE.is("wordAt(MIN)", x.wordAt(Integer.MIN_VALUE), -9);
        DUE.is("wordAt(MAX)", x.wordAt(Integer.MAX_VALUE), -9);
        Due.read(x, "a");
        DUE.is("wordAt(1) of a shorter one", x.wordAt(1), -9);
        DUE.is("wordAt is not counted", x.count(11), 0);
    }

    private static void readings() {
        long[] catalan = {1, 1, 2, 5, 14, 42, 132, 429, 1430, 4862, 16796};
        StringBuilder text = new StringBuilder("a");
        for (int joins = 0; joins < catalan.length; joins++) {
            DUE.is("readings() of " + text, Due.of(text.toString()).readings(), catalan[joins]);
            text.append("|b");
        }
        String[] texts = {"!a", "!a&b", "!!a&b", "!!!a&b", "!a&!b", "(a&b)|c", "(a)&(b)", "!(a&b)", "(!a&b)", "(a&b|c)>d",
            "!a&b|c", "a&!b|c", "!!!!!!!!!!!!!!!!!!!!a"};
        long[] numbers = {1, 2, 3, 4, 2, 1, 1, 1, 2, 2, 5, 3, 1};
        for (int i = 0; i < texts.length; i++) {
            DUE.is("readings() of " + texts[i], Due.of(texts[i]).readings(), numbers[i]);
        }
    }

    private static void nodes() {
        DUE.is("nodes(0) of a", new MayBeRead().nodes(0), 1);
        DUE.is("nodes(0) of (a)", Due.of("(a)").nodes(0), 2);
        MayBeRead x = Due.of("!(a&b)|c");
        DUE.is("nodes(0)", x.nodes(0), 7);
        DUE.is("nodes(1)", x.nodes(1), 7);
        DUE.is("nodes(2)", x.nodes(2), -1);
        DUE.is("nodes(-1)", x.nodes(-1), -1);
        DUE.is("nodes(MAX)", x.nodes(Integer.MAX_VALUE), -1);
        DUE.is("nodes(MIN)", x.nodes(Integer.MIN_VALUE), -1);
        DUE.is("count(11)", x.count(11), 4);
        DUE.is("nodes(0) of 21 words", Due.of("!!!!!!!!!!!!!!!!!!!!a").nodes(0), 21);
        DUE.is("nodes(-1) where spent", Due.of("a|a|a|a|a|a|a|a").nodes(-1), -5);
    }

    /** Each node as KIND, where it begins, how many words. */
    private static void tree(String sentence, int reading, int... want) {
        MayBeRead x = Due.of(sentence);
        String of = " of " + sentence + ", reading " + reading;
        DUE.is("nodes" + of, x.nodes(reading), want.length / 3);
        for (int i = 0; i < want.length; i++) {
            DUE.is("node " + i / 3 + ", " + i % 3 + of, x.node(reading, i / 3, i % 3), want[i]);
        }
    }

    private static void node() {
        tree("a", 0, 0, 0, 1);
        tree("!a", 0, 1, 0, 2, 0, 1, 1);
        tree("(a)", 0, 2, 0, 3, 0, 1, 1);
        tree("a&b", 0, 3, 0, 3, 0, 0, 1, 0, 2, 1);
        tree("a|b", 0, 4, 0, 3, 0, 0, 1, 0, 2, 1);
        tree("a>b", 0, 5, 0, 3, 0, 0, 1, 0, 2, 1);
        tree("a-b", 0, 6, 0, 3, 0, 0, 1, 0, 2, 1);
        tree("!(a-b)", 0, 1, 0, 6, 2, 1, 5, 6, 2, 3, 0, 2, 1, 0, 4, 1);
        MayBeRead x = Due.of("a&b|c");
        DUE.is("node(2, 0, 0)", x.node(2, 0, 0), -1);
        DUE.is("node(-1, 0, 9)", x.node(-1, 0, 9), -1);
        DUE.is("node(0, 5, 0)", x.node(0, 5, 0), -1);
        DUE.is("node(0, -1, 0)", x.node(0, -1, 0), -1);
        DUE.is("node(0, MAX, 3)", x.node(0, Integer.MAX_VALUE, 3), -1);
        DUE.is("node(0, 0, 3)", x.node(0, 0, 3), -2);
        DUE.is("node(0, 0, -1)", x.node(0, 0, -1), -2);
        DUE.is("count(11)", x.count(11), 5);
        DUE.is("count(12)", x.count(12), 2);
        MayBeRead two = Due.of("a&b|c");
        DUE.is("node(0, 0, 0) of two", two.node(0, 0, 0), 3);
        DUE.is("node(1, 0, 0) of two", two.node(1, 0, 0), 4);
        DUE.is("node(0, 0, 0) of two again", two.node(0, 0, 0), 3);
        DUE.is("node(9, 99, 9) where spent", Due.of("a|a|a|a|a|a|a|a").node(9, 99, 9), -5);
    }

    private static void orderOfReadings() {
        tree("a&b|c", 0, 3, 0, 5, 0, 0, 1, 4, 2, 3, 0, 2, 1, 0, 4, 1);
        tree("a&b|c", 1, 4, 0, 5, 3, 0, 3, 0, 0, 1, 0, 2, 1, 0, 4, 1);
        tree("!a&b", 0, 1, 0, 4, 3, 1, 3, 0, 1, 1, 0, 3, 1);
        tree("!a&b", 1, 3, 0, 4, 1, 0, 2, 0, 1, 1, 0, 3, 1);
        tree("!!a&b", 1, 1, 0, 5, 3, 1, 4, 1, 1, 2, 0, 2, 1, 0, 4, 1);
        tree("(a&b)|c", 0, 4, 0, 7, 2, 0, 5, 3, 1, 3, 0, 1, 1, 0, 3, 1, 0, 6, 1);
        tree("(a)&(b)", 0, 3, 0, 7, 2, 0, 3, 0, 1, 1, 2, 4, 3, 0, 5, 1);
        // Parted at ">" the readings are 19 to 22: by the number of what is ahead, then of what is behind.
        tree("a&b|c>d-e|a", 19, 5, 0, 11, 3, 0, 5, 0, 0, 1, 4, 2, 3, 0, 2, 1, 0, 4, 1,
            6, 6, 5, 0, 6, 1, 4, 8, 3, 0, 8, 1, 0, 10, 1);
        tree("a&b|c>d-e|a", 20, 5, 0, 11, 3, 0, 5, 0, 0, 1, 4, 2, 3, 0, 2, 1, 0, 4, 1,
            4, 6, 5, 6, 6, 3, 0, 6, 1, 0, 8, 1, 0, 10, 1);
        tree("a&b|c>d-e|a", 21, 5, 0, 11, 4, 0, 5, 3, 0, 3, 0, 0, 1, 0, 2, 1, 0, 4, 1,
            6, 6, 5, 0, 6, 1, 4, 8, 3, 0, 8, 1, 0, 10, 1);
        tree("a&b|c>d-e|a", 22, 5, 0, 11, 4, 0, 5, 3, 0, 3, 0, 0, 1, 0, 2, 1, 0, 4, 1,
            4, 6, 5, 6, 6, 3, 0, 6, 1, 0, 8, 1, 0, 10, 1);
    }

    private static void listedUpTo200() {
        // 5 ways in the brackets times 42 around them; then 14 times 14.
        MayBeRead above = Due.of("(a&b&c&d)|a|b|c|d|e");
        DUE.is("readings() above 200", above.readings(), 210);
        DUE.is("nodes(0) above 200", above.nodes(0), -5);
        DUE.is("count(15)", above.count(15), 1);
        MayBeRead below = Due.of("(a&b&c&d&e)|a|b|c|d");
        DUE.is("readings() below 200", below.readings(), 196);
        DUE.is("nodes(195)", below.nodes(195), 18);
        DUE.is("nodes(196)", below.nodes(196), -1);
        DUE.is("node(195, 0, 1)", below.node(195, 0, 1), 0);
        MayBeRead just = Due.of("!!!!a&!!a&!!a&a");
        DUE.is("readings() just 200", just.readings(), 200);
        DUE.is("nodes(199) of 200", just.nodes(199), 15);
        DUE.is("nodes(200) of 200", just.nodes(200), -1);
        MayBeRead more = Due.of("!!a&!a&!!a&(!!a&a)");
        DUE.is("readings() just 201", more.readings(), 201);
        DUE.is("nodes(0) of 201", more.nodes(0), -5);
    }
}
