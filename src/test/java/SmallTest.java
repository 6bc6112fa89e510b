import java.util.ArrayList;
import java.util.List;

/** All that is small, none left out: each short text as it is read, each short sentence in all that it is asked. */
public final class SmallTest {
    private static final Due DUE = new Due("SmallTest");
    private static final String SIGNS = "a!&()x";
    private static final int LONGEST_TEXT = 6;
    private static final String WORDS = "ab!->()";
    private static final int LONGEST_SENTENCE = 7;

    public static void main(String[] args) {
        readEachText("");
        List<String> sentences = new ArrayList<>();
        gather("", true, 0, sentences);
        DUE.that("there are many sentences: " + sentences.size(), sentences.size() > 300);
        for (String sentence : sentences) {
            askAll(sentence);
        }
        DUE.finish();
    }

    private static void readEachText(String text) {
        MayBeRead x = new MayBeRead();
        Oracle oracle = new Oracle();
        Due.feed(x, text);
        if (text.length() > 0) {
            oracle.feed(text.length(), Due.bytes(text));
        }
        DUE.is("read() of " + text, x.read(), oracle.read());
        for (int i = 0; i < SIGNS.length() && text.length() < LONGEST_TEXT; i++) {
            readEachText(text + SIGNS.charAt(i));
        }
    }

    private static void gather(String text, boolean phraseDue, int open, List<String> sentences) {
        if (!phraseDue && open == 0) {
            sentences.add(text);
        }
        for (int i = 0; i < WORDS.length() && text.length() < LONGEST_SENTENCE; i++) {
            char word = WORDS.charAt(i);
            if (phraseDue && word == '(') {
                gather(text + word, true, open + 1, sentences);
            } else if (phraseDue && "ab!".indexOf(word) >= 0) {
                gather(text + word, word == '!', open, sentences);
            } else if (!phraseDue && word == ')' && open > 0) {
                gather(text + word, false, open - 1, sentences);
            } else if (!phraseDue && "->".indexOf(word) >= 0) {
                gather(text + word, true, open, sentences);
            }
        }
    }

    private static void askAll(String sentence) {
        MayBeRead x = Due.of(sentence);
        Oracle oracle = new Oracle();
        oracle.feed(sentence.length(), Due.bytes(sentence));
        oracle.read();
        String of = " of " + sentence;
        DUE.is("readings()" + of, x.readings(), oracle.readings());
        for (int i = 0; i < x.readings(); i++) {
            askReading(of, x, oracle, i);
        }
        DUE.is("all(true)" + of, x.all(true), oracle.all(true));
        DUE.is("all(false)" + of, x.all(false), oracle.all(false));
        DUE.is("unlike()" + of, x.unlike(), oracle.unlike());
        DUE.is("needless()" + of, x.needless(), oracle.needless());
        DUE.is("test()" + of, x.test(), oracle.test());
        DUE.is("fewest()" + of, x.fewest(), oracle.fewest());
        for (int set = 0; set < 4; set++) {
            DUE.is("map(" + set + ")" + of, x.map(set), oracle.map(set));
        }
        // An object of its own, since one is good for 512 calls.
        askRules(of, Due.of(sentence), oracle);
    }

    private static void askReading(String of, MayBeRead x, Oracle oracle, int reading) {
        DUE.is("nodes(" + reading + ")" + of, x.nodes(reading), oracle.nodes(reading));
        for (int i = 0; i < oracle.nodes(reading); i++) {
            for (int what = 0; what < 3; what++) {
                DUE.is("node(" + reading + ", " + i + ", " + what + ")" + of, x.node(reading, i, what),
                        oracle.node(reading, i, what));
            }
        }
        DUE.is("means(" + reading + ")" + of, x.means(reading), oracle.means(reading));
        DUE.is("idle(" + reading + ")" + of, x.idle(reading), oracle.idle(reading));
        DUE.is("mend(" + reading + ")" + of, x.mend(reading), oracle.mend(reading));
        DUE.is("part(0, " + reading + ")" + of, x.part(0, reading), oracle.part(0, reading));
        for (int rule = 0; rule < 6; rule++) {
            DUE.is("meets(" + reading + ", " + rule + ")" + of, x.meets(reading, rule), oracle.meets(reading, rule));
        }
    }

    private static void askRules(String of, MayBeRead x, Oracle oracle) {
        for (int a = 0; a < 6; a++) {
            for (int b = 0; b < 6; b++) {
                DUE.is("quarrel(" + a + ", " + b + ")" + of, x.quarrel(a, b), oracle.quarrel(a, b));
                x.choose(a);
                oracle.choose(a);
                x.choose(b);
                oracle.choose(b);
                String by = " by " + a + ", " + b + of;
                DUE.is("leftOver(-1)" + by, x.leftOver(-1), oracle.leftOver(-1));
                DUE.is("leftOver(0)" + by, x.leftOver(0), oracle.leftOver(0));
                DUE.is("leftOver(1)" + by, x.leftOver(1), oracle.leftOver(1));
                DUE.is("passedOver()" + by, x.passedOver(), oracle.passedOver());
                DUE.is("hangs()" + by, x.hangs(), oracle.hangs());
                x.unchoose();
                oracle.unchoose();
            }
        }
    }
}
