/** Promises 24 to 27: the test, the fewest cases, brackets, the mend. */
public final class PartingTest {
    private static final Due DUE = new Due("PartingTest");
    private static final String SPENT = "a|a|a|a|a|a|a|a";

    public static void main(String[] args) {
        test();
        fewest();
        bracket();
        bracketAcrossOthers();
        bracketRefused();
        mend();
        DUE.finish();
    }

    private static void test(String sentence, int want) {
        DUE.is("test() of " + sentence, Due.of(sentence).test(), want);
    }

    private static void test() {
        // Where there is one meaning each case is as good as the least.
        test("a", 0);
        test("a&b&c", 0);
        // !(a|b), (!a)|b: they part at 2 and 3 alone.
        test("!a|b", 2);
        test("!a|c", 4);
        test("!a|e", 16);
        // a-(b-c), (a-b)-c: they part at 5.
        test("a-b-c", 5);
        // e&!(a|a), e&((!a)|a), (e&!a)|a: 0 is let by none, 1 by two, 16 by all, 17 by two.
        test("e&!a|a", 1);
        DUE.is("test() where spent", Due.of(SPENT).test(), -5);
    }

    private static void fewest(String sentence, int unlike, int want) {
        MayBeRead x = Due.of(sentence);
        DUE.is("unlike() of " + sentence, x.unlike(), unlike);
        DUE.is("fewest() of " + sentence, x.fewest(), want);
    }

    private static void fewest() {
        fewest("a", 1, 0);
        fewest("a&b&c", 1, 0);
        fewest("a-b-c", 2, 1);
        fewest("!a|e", 2, 1);
        fewest("a&!a|b", 3, 2);
        fewest("!a&a|a", 4, 2);
        fewest("!a|b>a", 4, 3);
        fewest("!a&b|c", 5, 3);
        fewest("!a&a|a>b", 8, 3);
        fewest("a-a-b>c", 5, -9);
        fewest("a&!a>b>c", 8, -9);
        fewest("a&!b|b>c", 9, -9);
        DUE.is("fewest() where spent", Due.of(SPENT).fewest(), -5);
        fewestAtTheEdges();
        fewestOfTheSentenceThatIs();
    }

    /** Only few sets of cases part all here: 0 or 31 is in each, or two that stand side by side. */
    private static void fewestAtTheEdges() {
        fewest("c>d>e|b|d|a", 2, 1);
        fewest("c&e&b&d-b-a", 2, 1);
        fewest("e&c&d-!a-b-a", 4, 2);
        fewest("c|d>a>e|b|a", 3, 2);
        fewest("e&d&a-e-b&c", 3, 2);
        fewest("e&d&c&!b-a-a", 3, 2);
        fewest("d|e|(c>d>b&a)", 5, 3);
        fewest("c>c>d|e>b|a", 5, 3);
        fewest("d&e&b-a-b-c", 5, 3);
        fewest("c|e>e>d|b|a", 5, 3);
    }

    private static void fewestOfTheSentenceThatIs() {
        MayBeRead x = Due.of("!a&b|c");
        DUE.is("fewest() of the first", x.fewest(), 3);
        Due.read(x, "a-b-c");
        DUE.is("fewest() of the second", x.fewest(), 1);
        DUE.is("unlike() of the second", x.unlike(), 2);
        Due.read(x, "a");
        DUE.is("fewest() of the third", x.fewest(), 0);
        DUE.is("unlike() of the third", x.unlike(), 1);
    }

    private static void bracket(String sentence, int from, int to, String then) {
        MayBeRead x = Due.of(sentence);
        String call = "bracket(" + from + ", " + to + ") of " + sentence;
        DUE.is(call, x.bracket(from, to), then.length());
        DUE.that(call + " is " + then, Due.sentence(x).equals(then));
        DUE.is(call + ": readings()", x.readings(), Due.of(then).readings());
        DUE.is(call + ": means(0)", x.means(0), Due.of(then).means(0));
    }

    private static void bracket() {
        bracket("a", 0, 0, "(a)");
        bracket("a&b|c", 0, 2, "(a&b)|c");
        bracket("a&b|c", 2, 4, "a&(b|c)");
        bracket("a&b|c", 0, 4, "(a&b|c)");
        bracket("!a&b", 1, 3, "!(a&b)");
        bracket("!a&b", 0, 1, "(!a)&b");
        bracket("(a)", 1, 1, "((a))");
        bracket("a&b&c&d&e&a&b&c&d&e", 0, 18, "(a&b&c&d&e&a&b&c&d&e)");
        MayBeRead x = Due.of("a&b|c");
        x.choose(3);
        x.aim(7, 5);
        Due.feed(x, "a&");
        DUE.is("bracket(2, 4)", x.bracket(2, 4), 7);
        DUE.is("bracket leaves the rules", x.count(1), 1);
        DUE.is("bracket leaves the aims", x.count(2), 1);
        DUE.is("bracket leaves the tape", x.count(3), 2);
        DUE.is("serves(0) of the new sentence", x.serves(0), 5);
        DUE.is("readings() of the new sentence", x.readings(), 1);
        DUE.is("nodes(1) of the new sentence", x.nodes(1), -1);
    }

    private static void bracketAcrossOthers() {
        bracket("(a&b)", 0, 1, "((a)&b)");
        bracket("(a&b)|c", 3, 6, "(a&(b)|c)");
        bracket("(a&b)&(c|d)", 3, 7, "(a&(b)&(c)|d)");
    }

    private static void bracketRefused() {
        MayBeRead x = Due.of("a&b|c");
        DUE.is("bracket(-1, 2)", x.bracket(-1, 2), -1);
        DUE.is("bracket(0, 5)", x.bracket(0, 5), -1);
        DUE.is("bracket(5, 5)", x.bracket(5, 5), -1);
        DUE.is("bracket(2, 1)", x.bracket(2, 1), -1);
        DUE.is("bracket(MIN, MAX)", x.bracket(Integer.MIN_VALUE, Integer.MAX_VALUE), -1);
        DUE.is("bracket(0, MAX)", x.bracket(0, Integer.MAX_VALUE), -1);
        DUE.is("bracket(0, -1)", x.bracket(0, -1), -1);
        DUE.is("bracket(1, 1)", x.bracket(1, 1), -3);
        DUE.is("bracket(0, 1)", x.bracket(0, 1), -3);
        DUE.is("bracket(1, 2)", x.bracket(1, 2), -3);
        DUE.is("count(11)", x.count(11), 7);
        DUE.is("count(13)", x.count(13), 3);
        DUE.that("the sentence stays", Due.sentence(x).equals("a&b|c"));
        DUE.is("bracket where spent", Due.of(SPENT).bracket(0, 2), 17);
        DUE.is("bracket(1, 1) of 20 words", Due.of("!a&b&c&d&e&a&b&c&d&e").bracket(1, 1), -6);
        DUE.is("bracket(0, 0) of 19 words", Due.of("a&b&c&d&e&a&b&c&d&e").bracket(0, 0), 21);
        DUE.is("no sentence and no room", Due.of("!a&b&c&d&e&a&b&c&d&e").bracket(0, 0), -6);
        fifthOpen();
    }

    private static void fifthOpen() {
        MayBeRead x = Due.of("((((a))))");
        for (int place = 0; place < 9; place++) {
            // A pair that opens where four are open, or one "(" ahead of the fourth, makes a fifth; all are no sentence.
            int want = place >= 3 && place <= 5 ? -6 : -3;
            DUE.is("bracket(" + place + ", " + place + ") of ((((a))))", x.bracket(place, place), want);
        }
        DUE.is("bracket(0, 8) of ((((a))))", x.bracket(0, 8), -6);
        DUE.is("bracket(0, 4) of ((((a))))", x.bracket(0, 4), -6);
        DUE.is("bracket(0, 3) of ((((a))))", x.bracket(0, 3), -6);
        DUE.is("bracket(0, 2) of ((((a))))", x.bracket(0, 2), -3);
        DUE.is("bracket(0, 8) of (((a)))&b", Due.of("(((a)))&b").bracket(0, 8), 11);
        DUE.is("count(16)", x.count(16), 6);
        DUE.that("the sentence stays", Due.sentence(x).equals("((((a))))"));
    }

    private static void mend(String sentence, int... want) {
        MayBeRead x = Due.of(sentence);
        DUE.is("readings() of " + sentence, x.readings(), want.length);
        for (int i = 0; i < want.length; i++) {
            DUE.is("mend(" + i + ") of " + sentence, x.mend(i), want[i]);
        }
    }

    private static void mend() {
        mend("a", 0);
        mend("a&b&c", 0, 0);
        mend("a-b-c", 1, 1);
        mend("!a&a", 1, 1);
        // !(!(a&a)), !((!a)&a), (!!a)&a: the second shares its runs with one or the other, but not both.
        mend("!!a&a", 1, 2, 1);
        // The run that brackets have is not theirs to be put, but the one in them is.
        mend("(a-b-c)", 1, 1);
        MayBeRead x = Due.of("!a&!a|b");
        int[] seven = new int[7];
        for (int i = 0; i < seven.length; i++) {
            seven[i] = x.mend(i);
        }
        DUE.is("mend(1) of !a&!a|b", seven[1], -9);
        DUE.is("mend(7)", x.mend(7), -1);
        DUE.is("mend(-1)", x.mend(-1), -1);
        DUE.is("mend(MIN)", x.mend(Integer.MIN_VALUE), -1);
        DUE.is("count(11)", x.count(11), 3);
        DUE.is("mend(-1) where spent", Due.of(SPENT).mend(-1), -5);
    }
}
