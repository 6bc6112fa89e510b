/** Promises 1 to 5 at the edges that they and the terms under I name. The words of the document stand ahead of each. */
public final class TextEdgeTest {
    private static final Due DUE = new Due("TextEdgeTest");
    private static final Twins TWINS = new Twins(DUE);
    private static final String TAPE_OF_20 = "!!!!!!!!!!!!!!!!!!!!";

    public static void main(String[] args) {
        newObject();
        newObjectsStandAlone();
        feedTooFew();
        feedTooMany();
        feedUpTo21();
        feedBelowComesFirst();
        feedLowestFirst();
        feedLeavesTheSentence();
        readOfNothing();
        readOf21();
        readFaultAt20();
        readTooEarly();
        readFifthOpen();
        readFourthOpen();
        readOtherBytes();
        readClearsTheTape();
        readFaultChangesNothingElse();
        readKeepsChosenAndAims();
        wordAtEdges();
        wordAtIsNoRefusal();
        readingsLeast();
        readingsExactly();
        DUE.finish();
    }

    // Promise 1: "The SENTENCE a."

    private static void newObject() {
        MayBeRead x = new MayBeRead();
        DUE.is("new: wordAt(0)", x.wordAt(0), 'a');
        DUE.is("new: wordAt(1)", x.wordAt(1), -9);
        int[] counts = {1, 0, 0, 0, 1};
        for (int what = 0; what < counts.length; what++) {
            DUE.is("new: count(" + what + ")", x.count(what), counts[what]);
        }
        for (int what = 11; what <= 16; what++) {
            DUE.is("new: count(" + what + ")", x.count(what), 0);
        }
        DUE.is("new: read() of an empty tape", x.read(), -20);
        DUE.is("new: unchoose()", x.unchoose(), 0);
        DUE.is("new: serves(0)", x.serves(0), 0);
        DUE.is("new: on()", x.on(), -3);
    }

    private static void newObjectsStandAlone() {
        MayBeRead one = new MayBeRead();
        Past.FULL.of(one);
        MayBeRead other = new MayBeRead();
        DUE.is("another object: count(0)", other.count(0), 1);
        DUE.is("another object: count(1)", other.count(1), 0);
        DUE.is("another object: count(2)", other.count(2), 0);
        DUE.is("another object: count(3)", other.count(3), 0);
        DUE.is("another object: on()", other.on(), -3);
        DUE.is("the first: count(0)", one.count(0), 21);
        DUE.is("the first: count(13)", one.count(13), 0);
    }

    // Promise 2: "n (1 .. 8) bytes come, the lowest first: how many THE TAPE has. -4; -6 (n; above 21)."

    private static void feedTooFew() {
        for (int n : new int[] {0, -1, -8, Integer.MIN_VALUE}) {
            TWINS.refused("feed(" + n + ")", x -> x.feed(n, Due.bytes("abcdefgh")), -4, Past.NEW, Past.RICH, Past.SPENT);
        }
        DUE.is("feed(1)", new MayBeRead().feed(1, 'b'), 1);
    }

    private static void feedTooMany() {
        DUE.is("feed(8)", new MayBeRead().feed(8, Due.bytes("a|b|c|d|")), 8);
        for (int n : new int[] {9, 10, 21, 22, Integer.MAX_VALUE}) {
            TWINS.refused("feed(" + n + ")", x -> x.feed(n, Due.bytes("abcdefgh")), -6, Past.NEW, Past.RICH, Past.FULL);
        }
    }

    private static void feedUpTo21() {
        for (int there = 0; there <= 21; there++) {
            for (int n = 1; n <= 8; n++) {
                MayBeRead x = new MayBeRead();
                for (int i = 0; i < there; i++) {
                    x.feed(1, '!');
                }
                boolean fits = there + n <= 21;
                DUE.is("feed(" + n + ") onto " + there, x.feed(n, 0), fits ? there + n : -6);
                DUE.is("count(3) then", x.count(3), fits ? there + n : there);
                DUE.is("count(16) then", x.count(16), fits ? 0 : 1);
            }
        }
        for (int n = 1; n <= 8; n++) {
            int more = n;
            TWINS.refused("feed(" + n + ") onto 21", x -> x.feed(more, Due.bytes("abcdefgh")), -6, Past.FULL);
        }
    }

    private static void feedBelowComesFirst() {
        TWINS.refused("feed(0) onto 21", x -> x.feed(0, 'a'), -4, Past.FULL);
        TWINS.refused("feed(-1) onto 21", x -> x.feed(-1, 'a'), -4, Past.FULL);
        TWINS.refused("feed(MIN) onto 21", x -> x.feed(Integer.MIN_VALUE, 'a'), -4, Past.FULL);
    }

    private static void feedLowestFirst() {
        String bytes = "a&b|c>d-";
        for (int n = 1; n <= 8; n += 2) {
            MayBeRead x = new MayBeRead();
            // What is above the n bytes does not come, whatever it is.
            x.feed(n, Due.bytes(bytes.substring(0, n)) | (n < 8 ? -1L << 8 * n : 0));
            DUE.is("read() of " + n, x.read(), n);
            DUE.that("the lowest first of " + n, Due.sentence(x).equals(bytes.substring(0, n)));
        }
        MayBeRead eight = new MayBeRead();
        eight.feed(8, Due.bytes(bytes));
        eight.feed(1, 'e');
        DUE.is("read() of 8 and 1", eight.read(), 9);
        DUE.that("the eighth is ahead of the ninth", Due.sentence(eight).equals("a&b|c>d-e"));
        MayBeRead high = new MayBeRead();
        high.feed(8, Due.bytes("a&b|c>d") | 0xFFL << 56);
        DUE.is("read() where the eighth is 255", high.read(), -27);
    }

    private static void feedLeavesTheSentence() {
        MayBeRead x = new MayBeRead();
        MayBeRead other = new MayBeRead();
        Past.RICH.of(x);
        Past.RICH.of(other);
        x.read();
        other.read();
        x.feed(4, Due.bytes("e&!d"));
        DUE.that("feed leaves the sentence", Due.sentence(x).equals(Due.sentence(other)));
        DUE.is("feed leaves the rules", x.count(1), other.count(1));
        DUE.is("feed leaves the aims", x.count(2), other.count(2));
    }

    // Promise 3: "THE TAPE is read as a SENTENCE, and has none (by a FAULT, too): how many WORDS; or, if it has a FAULT,
    // -20 less its place (nothing is counted; THE TAPE has none, too)."

    private static void fault(String text, int place) {
        DUE.is("read() of " + text, Due.read(new MayBeRead(), text), -20 - place);
    }

    private static void sentence(String text) {
        MayBeRead x = new MayBeRead();
        DUE.is("read() of " + text, Due.read(x, text), text.length());
        DUE.that("its words: " + text, Due.sentence(x).equals(text));
        DUE.is("count(0) of " + text, x.count(0), text.length());
    }

    private static void readOfNothing() {
        fault("", 0);
        TWINS.changesNothing("read() of an empty tape", MayBeRead::read, -20, Past.NEW);
        sentence("b");
    }

    private static void readOf21() {
        sentence(TAPE_OF_20 + "a");
        sentence("a&b&c&d&e&a&b&c&d&e&a");
        sentence("((((a))))&((((b))))&c");
        sentence("((((a)&(b))|(c))>(d))");
    }

    private static void readFaultAt20() {
        fault(TAPE_OF_20 + "&", 20);
        fault(TAPE_OF_20 + "f", 20);
        fault("!!!!!!!!!!!!!!!!!!!ab", 20);
        fault("a&b&c&d&e&a&b&c&d&e)a", 19);
        fault("&" + TAPE_OF_20, 0);
    }

    /** "(the size, if it ends too early": one that can go on, but stops. */
    private static void readTooEarly() {
        fault("!", 1);
        fault("(", 1);
        fault("(a", 2);
        fault("((((a)))", 8);
        fault("a&", 2);
        fault("a>!", 3);
        fault(TAPE_OF_20, 20);
        fault(TAPE_OF_20 + "!", 21);
        fault("a&b&c&d&e&a&b&c&d&!e&", 21);
        fault("((((a|b|c|d|e|a|b|c|d", 21);
    }

    /** "a fifth "(" that is open at once: its own)". */
    private static void readFifthOpen() {
        fault("(((((", 4);
        fault("(((((a", 4);
        fault("(((((a)))))", 4);
        fault("!(!(!(!(!(", 9);
        fault("((((a)&((a", 8);
        fault("((a)&(((((a", 8);
        fault("a|((((b))))-(((((", 16);
    }

    private static void readFourthOpen() {
        sentence("((((a))))");
        sentence("(((a)&((b))))");
        sentence("((((a)&(b))))");
        sentence("!(!(!(!(a))))");
    }

    private static void readOtherBytes() {
        for (int value = 0; value < 256; value++) {
            MayBeRead x = new MayBeRead();
            x.feed(1, value);
            boolean letter = value >= 'a' && value <= 'e';
            DUE.is("read() of byte " + value, x.read(), letter ? 1 : value == '!' || value == '(' ? -21 : -20);
            x.feed(2, 'a' | value << 8);
            boolean four = value == '&' || value == '|' || value == '>' || value == '-';
            DUE.is("read() of a and byte " + value, x.read(), four ? -22 : -21);
        }
    }

    private static void readClearsTheTape() {
        for (String text : new String[] {"a", "ab", "!", "(((((", TAPE_OF_20 + "a", TAPE_OF_20 + "!"}) {
            MayBeRead x = new MayBeRead();
            Due.read(x, text);
            DUE.is("count(3) after " + text, x.count(3), 0);
            DUE.is("read() after " + text, x.read(), -20);
            DUE.is("feed(8) after " + text, x.feed(8, 0), 8);
        }
    }

    private static void readFaultChangesNothingElse() {
        for (Past past : Past.values()) {
            MayBeRead x = new MayBeRead();
            MayBeRead other = new MayBeRead();
            past.of(x);
            past.of(other);
            while (other.count(3) > 0 || x.count(3) > 0) {
                other.read();
                x.read();
            }
            Due.feed(x, "a&b&&");
            DUE.is("read() of a&b&& after " + past, x.read(), -24);
            for (int what = 11; what <= 16; what++) {
                DUE.is("nothing is counted, " + what, x.count(what), other.count(what));
            }
            TWINS.alike("read() of a&b&& after " + past, x, other);
        }
    }

    /** "What is read takes the place of what was (CHOSEN, AIMS stay)": the image and the refusals, too. */
    private static void readKeepsChosenAndAims() {
        MayBeRead x = new MayBeRead();
        Past.FULL.of(x);
        x.feed(0, 0);
        DUE.is("read() of 21 words", x.read(), 21);
        DUE.that("what is read is there", Due.sentence(x).equals(TAPE_OF_20 + "e"));
        DUE.is("count(1)", x.count(1), 6);
        DUE.is("count(2)", x.count(2), 8);
        DUE.is("count(14)", x.count(14), 1);
        DUE.is("readings()", x.readings(), 1);
        DUE.is("leftOver(-1)", x.leftOver(-1), 1);
        // Of the aims those at 17, 21, 25, 29 are of cases with e.
        DUE.is("serves(0)", x.serves(0), -13 - 41 - 69 - 97);
        DUE.is("on()", x.on(), 21);
        DUE.is("readings() of the image", x.readings(), 20);
    }

    // Promise 4: "WORD i, as its byte; -9 none such."

    private static void wordAtEdges() {
        for (String text : new String[] {"a", "(e)", "a&b|c>d-e", "a&b|c>d-e&!a&(b|(c))", TAPE_OF_20 + "b"}) {
            MayBeRead x = Due.of(text);
            for (int i = 0; i < text.length(); i++) {
                DUE.is("wordAt(" + i + ") of " + text, x.wordAt(i), text.charAt(i));
            }
            for (int i : new int[] {-1, text.length(), 21, 22, Integer.MIN_VALUE, Integer.MAX_VALUE}) {
                DUE.is("wordAt(" + i + ") of " + text, x.wordAt(i), i >= 0 && i < text.length() ? text.charAt(i) : -9);
            }
        }
        // A shorter sentence shows nothing of the longer one that was there.
        MayBeRead x = Due.of("a&b|c>d-e&!a&(b|(c))");
        Due.read(x, "e-d");
        DUE.is("wordAt(2)", x.wordAt(2), 'd');
        DUE.is("wordAt(3)", x.wordAt(3), -9);
    }

    private static void wordAtIsNoRefusal() {
        TWINS.changesNothing("wordAt(-1)", x -> x.wordAt(-1), -9, Past.values());
        TWINS.changesNothing("wordAt(21)", x -> x.wordAt(21), -9, Past.values());
    }

    // Promise 5: "HOW MANY READINGS", "exactly (a long)".

    private static void readingsLeast() {
        TWINS.changesNothing("readings()", MayBeRead::readings, 1, Past.NEW);
        TWINS.changesNothing("readings()", MayBeRead::readings, 5, Past.RICH);
        TWINS.changesNothing("readings()", MayBeRead::readings, 4862, Past.SPENT);
        TWINS.changesNothing("readings()", MayBeRead::readings, 20, Past.FULL);
        DUE.is("readings() of 20 times !", Due.of(TAPE_OF_20 + "a").readings(), 1);
        DUE.is("readings() of ((((a))))", Due.of("((((a))))").readings(), 1);
    }

    /** k times "!" ahead of m of the four: each way is a path that stays above its ground, a ballot number of them. */
    private static void readingsExactly() {
        for (int nots = 0; nots <= 20; nots++) {
            StringBuilder text = new StringBuilder(TAPE_OF_20.substring(0, nots)).append('a');
            for (int joins = 0; text.length() <= 21; joins++) {
                long want = (nots + 1) * choose(2 * joins + nots + 1, joins) / (2 * joins + nots + 1);
                DUE.is("readings() of " + text, Due.of(text.toString()).readings(), want);
                text.append("&|>-".charAt(joins % 4)).append("abcde".charAt(joins % 5));
            }
        }
        DUE.is("readings() of the most", Due.of("!!!!a&a&a&a&a&a&a&a&a").readings(), 48450);
    }

    private static long choose(int all, int some) {
        long ways = 1;
        for (int i = 1; i <= some; i++) {
            ways = ways * (all - some + i) / i;
        }
        return ways;
    }
}
