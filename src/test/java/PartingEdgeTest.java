/** Promises 24 to 27 at their edges: the least and the last case, 0 to 3 cases and more, 21 words, the fifth "(". */
public final class PartingEdgeTest {
    private static final Due DUE = new Due("PartingEdgeTest");
    private static final Twins TWINS = new Twins(DUE);
    private static final Past[] LISTED = {Past.NEW, Past.RICH, Past.FULL};
    private static final String OF_19 = "a&b&c&d&e&a&b&c&d&e";
    private static final String OF_20 = "!" + OF_19;
    private static final String OF_21 = OF_19 + "&a";

    public static void main(String[] args) {
        testOfSeveralTheLeast();
        testAtTheLastCase();
        testAgainstMap();
        fewestNone();
        fewestOneToThree();
        fewestMore();
        bracketNoWord();
        bracketToBelowFrom();
        bracketMoreThan21();
        bracketFifthOpen();
        bracketNoSentence();
        bracketOrderOfRefusals();
        bracketAcrossOthers();
        bracketChangesTheSentenceAlone();
        bracketEachRun();
        mendNoReading();
        mendNoneNeeded();
        mendOneAndTwo();
        mendMore();
        mendWhereBracketsStand();
        mendOfAnyKinds();
        DUE.finish();
    }

    // Promise 24: "TEST. -5." "of several the least".

    private static void testOfSeveralTheLeast() {
        TWINS.changesNothing("test()", MayBeRead::test, 0, Past.NEW);
        DUE.is("test() of one reading", Due.of("e").test(), 0);
        DUE.is("test() where all let all", Due.of("a>a").test(), 0);
        DUE.is("test() where none lets any", Due.of("a-a").test(), 0);
        DUE.is("test() where as many let as bar at 0", Due.of("!a&a").test(), 0);
        // a-(a-e), (a-a)-e: they part wherever a and e are so, and 17 is the least such case.
        DUE.is("test() where several are even", Due.of("a-a-e").test(), 17);
    }

    private static void testAtTheLastCase() {
        // Each of these has a case at which fewer let, or fewer bar, but only at the last are they even.
        DUE.is("test() at 31", Due.of("e&d&a-d-c&b").test(), 31);
        DUE.is("test() at 30", Due.of("c&d&b-c-e").test(), 30);
    }

    private static void testAgainstMap() {
        String[] sentences = {"e&d&a-d-c&b", "c&d&b-c-e", "!a&b|c", "a-b-c", "!!!!a&!!a&!!a&a", "(!a&b|c)&(!d|e)&(a-b)",
            "a&b|c>d-e|a", "!a&!b|!c"};
        for (String sentence : sentences) {
            MayBeRead x = Due.of(sentence);
            int least = 0;
            for (int set = 31; set >= 0; set--) {
                if (unevenness(x, set) <= unevenness(x, least)) {
                    least = set;
                }
            }
            DUE.is("test() of " + sentence, x.test(), least);
        }
    }

    private static long unevenness(MayBeRead x, int set) {
        return Math.abs(x.readings() - 2L * x.map(set));
    }

    // Promise 25: "FEWEST; -9. -5." "how many CASES (0 .. 3) part all UNLIKE MEANINGS; -9 more".

    private static void fewest(String sentence, int unlike, int want) {
        DUE.is("unlike() of " + sentence, Due.of(sentence).unlike(), unlike);
        DUE.is("fewest() of " + sentence, Due.of(sentence).fewest(), want);
    }

    private static void fewestNone() {
        fewest("a", 1, 0);
        fewest("a-a", 1, 0);
        fewest("a|b|c|d|e", 1, 0);
    }

    private static void fewestOneToThree() {
        fewest("!a&a", 2, 1);
        fewest("c>d>e|b|d|a", 2, 1);
        fewest("a&!a|b", 3, 2);
        // Four meanings are the most that two cases part, eight the most that three do.
        fewest("!a&a|a", 4, 2);
        fewest("!a|b>a", 4, 3);
        fewest("!a&a|a>b", 8, 3);
    }

    private static void fewestMore() {
        fewest("a-a-b>c", 5, -9);
        fewest("a&!a>b>c", 8, -9);
        fewest("a&!b|b>c", 9, -9);
        TWINS.changesNothing("fewest()", MayBeRead::fewest, -9, Past.FULL);
    }

    // Promise 26: "BRACKETS come around WORDS from .. to: how many WORDS then. -1 (to below from, too); -6 (more than 21
    // WORDS then; a fifth "(" open at once then); -3 it is no SENTENCE then (brackets across others may be one)."

    private static void bracketed(String sentence, int from, int to, String then) {
        MayBeRead x = Due.of(sentence);
        String call = "bracket(" + from + ", " + to + ") of " + sentence;
        DUE.is(call, x.bracket(from, to), then.length());
        DUE.that(call + " is " + then, Due.sentence(x).equals(then));
    }

    private static void refused(String sentence, int from, int to, int number) {
        MayBeRead x = Due.of(sentence);
        String call = "bracket(" + from + ", " + to + ") of " + sentence;
        DUE.is(call, x.bracket(from, to), number);
        DUE.that(call + " leaves it", Due.sentence(x).equals(sentence));
        for (int what = 11; what <= 16; what++) {
            DUE.is(call + ": count(" + what + ")", x.count(what), what == 10 - number ? 1 : 0);
        }
    }

    private static void bracketNoWord() {
        for (int bad : new int[] {-1, -2, 21, 22, Integer.MIN_VALUE, Integer.MAX_VALUE}) {
            TWINS.refused("bracket(" + bad + ", 0)", x -> x.bracket(bad, 0), -1, Past.values());
            TWINS.refused("bracket(0, " + bad + ")", x -> x.bracket(0, bad), -1, Past.values());
            TWINS.refused("bracket(" + bad + ", " + bad + ")", x -> x.bracket(bad, bad), -1, Past.values());
        }
        TWINS.refused("bracket(0, 1)", x -> x.bracket(0, 1), -1, Past.NEW);
        TWINS.refused("bracket(0, 6)", x -> x.bracket(0, 6), -1, Past.RICH);
        TWINS.refused("bracket(6, 6)", x -> x.bracket(6, 6), -1, Past.RICH);
        bracketed("a", 0, 0, "(a)");
        bracketed("!a&b|c", 0, 5, "(!a&b|c)");
        bracketed("!a&b|c", 5, 5, "!a&b|(c)");
    }

    private static void bracketToBelowFrom() {
        TWINS.refused("bracket(1, 0)", x -> x.bracket(1, 0), -1, Past.values());
        TWINS.refused("bracket(5, 3)", x -> x.bracket(5, 3), -1, Past.values());
        TWINS.refused("bracket(20, 0)", x -> x.bracket(20, 0), -1, Past.FULL);
        bracketed("!a&b|c", 3, 3, "!a&(b)|c");
    }

    private static void bracketMoreThan21() {
        bracketed(OF_19, 0, 18, "(" + OF_19 + ")");
        bracketed(OF_19, 18, 18, OF_19.substring(0, 18) + "(e)");
        refused(OF_20, 0, 19, -6);
        refused(OF_20, 1, 1, -6);
        refused(OF_21, 0, 20, -6);
        refused(OF_21, 20, 20, -6);
        TWINS.refused("bracket(0, 20)", x -> x.bracket(0, 20), -6, Past.FULL);
    }

    private static void bracketFifthOpen() {
        bracketed("(((a)))", 3, 3, "((((a))))");
        bracketed("(((a)))", 0, 6, "((((a))))");
        bracketed("((((a))))&b", 10, 10, "((((a))))&(b)");
        refused("((((a))))", 4, 4, -6);
        refused("((((a))))", 0, 8, -6);
        refused("!((((a))))", 0, 9, -6);
        refused("((((a))))&b", 0, 10, -6);
        refused("b&((((a))))", 0, 10, -6);
        // Counted one behind the other: the ")" that comes makes room for a later "(".
        bracketed("(((a)))&((b))", 9, 11, "(((a)))&(((b)))");
        bracketed("(((a)))&(b)", 0, 4, "((((a))))&(b)");
        refused("((((a)))&b)", 0, 8, -6);
    }

    private static void bracketNoSentence() {
        refused("a&b", 1, 1, -3);
        bracketed("a&b", 0, 0, "(a)&b");
        bracketed("a&b", 2, 2, "a&(b)");
        TWINS.refused("bracket(0, 0)", x -> x.bracket(0, 0), -3, Past.RICH);
        TWINS.refused("bracket(0, 2)", x -> x.bracket(0, 2), -3, Past.RICH);
        TWINS.refused("bracket(1, 1)", x -> x.bracket(1, 1), -3, Past.SPENT);
        refused("(a)", 0, 0, -3);
        refused("(a)", 2, 2, -3);
        refused("a&b|c", 1, 3, -3);
    }

    private static void bracketOrderOfRefusals() {
        // No such word, and more than 21 words: -1. More than 21, a fifth "(", no sentence: -6 ahead of -3.
        refused(OF_21, 0, 21, -1);
        refused(OF_21, -1, 20, -1);
        refused(OF_21, 20, 19, -1);
        refused(OF_21, 1, 1, -6);
        refused(OF_20, 0, 0, -6);
        refused("((((a))))", 9, 9, -1);
        refused("((((a))))", 5, 4, -1);
        refused("((((a))))", 0, 3, -6);
        refused("((((a))))", 3, 3, -6);
        refused("((((a))))", 4, 8, -6);
        refused("((((a))))", 0, 0, -3);
        refused("((((a))))", 8, 8, -3);
        TWINS.refused("bracket(0, 21)", x -> x.bracket(0, 21), -1, Past.FULL);
        TWINS.refused("bracket(1, 0)", x -> x.bracket(1, 0), -1, Past.FULL);
        TWINS.refused("bracket(0, 0)", x -> x.bracket(0, 0), -6, Past.FULL);
    }

    private static void bracketAcrossOthers() {
        bracketed("(a)", 0, 1, "((a))");
        bracketed("(a)", 1, 2, "((a))");
        bracketed("(a&b)", 0, 1, "((a)&b)");
        bracketed("(a&b)", 3, 4, "(a&(b))");
        bracketed("(a&b)&(c|d)", 3, 7, "(a&(b)&(c)|d)");
        refused("(a&b)", 0, 2, -3);
    }

    /** What comes by brackets is the sentence of which all is asked; rules, aims, tape, image, refusals stay. */
    private static void bracketChangesTheSentenceAlone() {
        MayBeRead x = new MayBeRead();
        MayBeRead other = new MayBeRead();
        Past.RICH.of(x);
        Past.RICH.of(other);
        DUE.is("bracket(1, 3)", x.bracket(1, 3), 8);
        other.read();
        Due.read(other, "!(a&b)|c");
        Due.feed(other, "e&!d");
        for (int what = 11; what <= 16; what++) {
            DUE.is("count(" + what + ")", x.count(what), other.count(what));
        }
        TWINS.alike("bracket(1, 3) of !a&b|c", x, other);
    }

    /** Each run of words of some sentences, against a text with brackets put in that is read by itself. */
    private static void bracketEachRun() {
        for (String text : new String[] {"!a&b|c", "(a&b)|!c", "((((a))))", "((a)&(b))", "(((a>b)))-c", "!(!(!(!a)))"}) {
            for (int from = -1; from <= text.length(); from++) {
                for (int to = -1; to <= text.length(); to++) {
                    MayBeRead x = Due.of(text);
                    String call = "bracket(" + from + ", " + to + ") of " + text;
                    DUE.is(call, x.bracket(from, to), wantOfRun(text, from, to));
                }
            }
        }
    }

    private static int wantOfRun(String text, int from, int to) {
        if (from < 0 || to < from || to >= text.length()) {
            return -1;
        }
        String then = text.substring(0, from) + "(" + text.substring(from, to + 1) + ")" + text.substring(to + 1);
        int open = 0;
        for (char word : then.toCharArray()) {
            open += word == '(' ? 1 : word == ')' ? -1 : 0;
            if (open == 5) {
                return -6;
            }
        }
        return Due.read(new MayBeRead(), then) == then.length() ? then.length() : -3;
    }

    // Promise 27: "MEND; -9. -5; -1." "the fewest NODES of it (0, 1, 2; ..); -9 more".

    private static void mend(String sentence, int... want) {
        MayBeRead x = Due.of(sentence);
        DUE.is("readings() of " + sentence, x.readings(), want.length);
        for (int i = 0; i < want.length; i++) {
            DUE.is("mend(" + i + ") of " + sentence, x.mend(i), want[i]);
        }
        DUE.is("mend(" + want.length + ") of " + sentence, x.mend(want.length), -1);
        DUE.is("mend(-1) of " + sentence, x.mend(-1), -1);
        DUE.is("count(11) of " + sentence, x.count(11), 2);
    }

    private static void mendNoReading() {
        for (int bad : new int[] {-1, -2, 20, 200, Integer.MIN_VALUE, Integer.MAX_VALUE}) {
            TWINS.refused("mend(" + bad + ")", x -> x.mend(bad), -1, LISTED);
        }
        TWINS.refused("mend(1)", x -> x.mend(1), -1, Past.NEW);
        TWINS.refused("mend(5)", x -> x.mend(5), -1, Past.RICH);
    }

    private static void mendNoneNeeded() {
        TWINS.changesNothing("mend(0)", x -> x.mend(0), 0, Past.NEW);
        mend("a", 0);
        mend("((((a))))", 0);
        mend("a&b&c", 0, 0);
        mend("a|b|c|d", 0, 0, 0, 0, 0);
    }

    private static void mendOneAndTwo() {
        mend("a-b-c", 1, 1);
        mend("!a&a", 1, 1);
        mend("!a|b", 1, 1);
        TWINS.changesNothing("mend(4)", x -> x.mend(4), 2, Past.RICH);
    }

    private static void mendMore() {
        MayBeRead x = Due.of("!a&!a|b");
        DUE.is("mend(1) of !a&!a|b", x.mend(1), -9);
        int refusals = 0;
        for (int what = 11; what <= 16; what++) {
            refusals += x.count(what);
        }
        DUE.is("-9 is no refusal", refusals, 0);
    }

    /** Brackets that stand there, and what they hold, are in all readings, as the whole is: none of them tells one apart. */
    private static void mendWhereBracketsStand() {
        mend("(a-b-c)", 1, 1);
        mend("a-(b)-c", 1, 1);
        mend("a-(b-c)", 0);
        mend("(a-b)-c", 0);
        mend("!(a-b)-c", 1, 1);
    }

    /**
     * "(of any KINDS)": !(!(a&a)), !((!a)&a), (!!a)&a. Words 1 to 4 are an "&" in the second, and a "!" in the first:
     * that one node does not tell the second from the first.
     */
    private static void mendOfAnyKinds() {
        mend("!!a&a", 1, 2, 1);
    }
}
