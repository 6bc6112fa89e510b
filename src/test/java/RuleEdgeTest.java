/** Promises 18 to 23 at their edges: no rule chosen, all six, the first and the last, none left, all left. */
public final class RuleEdgeTest {
    private static final Due DUE = new Due("RuleEdgeTest");
    private static final Twins TWINS = new Twins(DUE);
    private static final Past[] LISTED = {Past.NEW, Past.RICH, Past.FULL};
    private static final int[] NO_RULE = {-1, -2, 6, 7, Integer.MIN_VALUE, Integer.MAX_VALUE};

    public static void main(String[] args) {
        chooseNoRule();
        chooseTwice();
        chooseSix();
        unchooseNone();
        unchooseSix();
        leftOverBelow();
        leftOverOfNoRules();
        leftOverBeyond();
        leftOverOfSixRules();
        passedOverOfNoRules();
        passedOverOfSixRules();
        passedOverGreatest();
        quarrelOneTwice();
        quarrelNoRule();
        quarrelWhereOneIsMetByNone();
        quarrelOfEachPair();
        hangsOfNoRules();
        hangsOfEachRule();
        hangsOfSixRules();
        askingChangesNothing();
        DUE.finish();
    }

    private static MayBeRead of(String sentence, int... rules) {
        MayBeRead x = Due.of(sentence);
        for (int rule : rules) {
            x.choose(rule);
        }
        return x;
    }

    // Promise 18: "A RULE more is CHOSEN: how many. -1; -3 it is." CHOSEN: "6 at most; each once".

    private static void chooseNoRule() {
        for (int bad : NO_RULE) {
            TWINS.refused("choose(" + bad + ")", x -> x.choose(bad), -1, Past.values());
        }
        DUE.is("choose(0)", new MayBeRead().choose(0), 1);
        DUE.is("choose(5)", new MayBeRead().choose(5), 1);
    }

    private static void chooseTwice() {
        for (int rule : new int[] {3, 0, 1}) {
            TWINS.refused("choose(" + rule + ")", x -> x.choose(rule), -3, Past.RICH);
        }
        for (int rule = 0; rule < 6; rule++) {
            int chosen = rule;
            TWINS.refused("choose(" + rule + ")", x -> x.choose(chosen), -3, Past.FULL);
            MayBeRead x = new MayBeRead();
            x.choose(rule);
            for (int other = 0; other < 6; other++) {
                DUE.is("choose(" + other + ") after " + rule, x.choose(other), other == rule ? -3 : x.count(1));
            }
            DUE.is("count(1)", x.count(1), 6);
            DUE.is("count(13)", x.count(13), 1);
        }
    }

    private static void chooseSix() {
        MayBeRead x = new MayBeRead();
        for (int rule = 0; rule < 6; rule++) {
            DUE.is("choose(" + rule + ")", x.choose(rule), rule + 1);
            DUE.is("count(1)", x.count(1), rule + 1);
        }
        DUE.is("count(11)", x.count(11), 0);
        DUE.is("count(13)", x.count(13), 0);
    }

    // Promise 19: "No RULES are CHOSEN any more: how many were."

    private static void unchooseNone() {
        TWINS.changesNothing("unchoose()", MayBeRead::unchoose, 0, Past.NEW);
        MayBeRead x = of("!a&b", 0);
        DUE.is("unchoose() of one", x.unchoose(), 1);
        DUE.is("unchoose() again", x.unchoose(), 0);
    }

    private static void unchooseSix() {
        MayBeRead x = new MayBeRead();
        Past.FULL.of(x);
        DUE.is("unchoose() of six", x.unchoose(), 6);
        DUE.is("count(1)", x.count(1), 0);
        DUE.is("leftOver(-1)", x.leftOver(-1), 20);
        DUE.is("passedOver()", x.passedOver(), 0);
        DUE.is("hangs()", x.hangs(), 0);
        DUE.is("aims stay", x.count(2), 8);
        DUE.is("the tape stays", x.count(3), 21);
        for (int rule = 5; rule >= 0; rule--) {
            DUE.is("choose(" + rule + ") again", x.choose(rule), 6 - rule);
        }
        DUE.is("unchoose() in the end", x.unchoose(), 6);
        DUE.is("on()", x.on(), 21);
        DUE.is("the image has them still", x.count(1), 6);
    }

    // Promise 20: "The i-th LEFT OVER; -9 none such; how many (i -1). -5; -1 (i below -1)."

    private static void leftOverBelow() {
        for (int i : new int[] {-2, -3, -9, Integer.MIN_VALUE}) {
            TWINS.refused("leftOver(" + i + ")", x -> x.leftOver(i), -1, LISTED);
        }
        TWINS.changesNothing("leftOver(-1)", x -> x.leftOver(-1), 1, Past.NEW);
    }

    private static void leftOverOfNoRules() {
        MayBeRead x = Due.of("!a&b|c");
        DUE.is("leftOver(-1)", x.leftOver(-1), 5);
        for (int i = 0; i < 5; i++) {
            DUE.is("leftOver(" + i + ")", x.leftOver(i), i);
        }
        DUE.is("leftOver(5)", x.leftOver(5), -9);
    }

    private static void leftOverBeyond() {
        TWINS.changesNothing("leftOver(0)", x -> x.leftOver(0), 0, Past.NEW);
        TWINS.changesNothing("leftOver(1)", x -> x.leftOver(1), -9, Past.NEW);
        TWINS.changesNothing("leftOver(1)", x -> x.leftOver(1), -9, Past.RICH);
        TWINS.changesNothing("leftOver(MAX)", x -> x.leftOver(Integer.MAX_VALUE), -9, LISTED);
        // NEAR leaves !a&b|c the readings 2 and 4; a rule that all meet leaves all.
        MayBeRead two = of("!a&b|c", 0);
        DUE.is("leftOver(-1) of two", two.leftOver(-1), 2);
        DUE.is("leftOver(0) of two", two.leftOver(0), 2);
        DUE.is("leftOver(1) of two", two.leftOver(1), 4);
        DUE.is("leftOver(2) of two", two.leftOver(2), -9);
        MayBeRead all = of("a|b|c", 0, 1, 3);
        DUE.is("leftOver(-1) of all", all.leftOver(-1), 2);
        DUE.is("leftOver(1) of all", all.leftOver(1), 1);
    }

    private static void leftOverOfSixRules() {
        MayBeRead x = of("a", 5, 4, 3, 2, 1, 0);
        DUE.is("leftOver(-1) of a", x.leftOver(-1), 1);
        DUE.is("leftOver(0) of a", x.leftOver(0), 0);
        MayBeRead near = of("!a&b|c", 0, 1, 2, 3, 4, 5);
        DUE.is("leftOver(-1), NEAR ahead", near.leftOver(-1), 1);
        DUE.is("leftOver(0), NEAR ahead", near.leftOver(0), 4);
        MayBeRead far = of("!a&b|c", 1, 0, 2, 3, 4, 5);
        DUE.is("leftOver(-1), FAR ahead", far.leftOver(-1), 1);
        DUE.is("leftOver(0), FAR ahead", far.leftOver(0), 1);
    }

    // Promise 21: "How many RULES were passed over. -5."

    private static void passedOverOfNoRules() {
        TWINS.changesNothing("passedOver()", MayBeRead::passedOver, 0, Past.NEW);
        DUE.is("passedOver() where no rule is chosen, though none would be met", Due.of("(a-a)&!b|c").passedOver(), 0);
    }

    private static void passedOverOfSixRules() {
        DUE.is("passedOver() of a, which meets all", of("a", 0, 1, 2, 3, 4, 5).passedOver(), 0);
        DUE.is("passedOver() of SOME by a-a", of("a-a", 0, 1, 2, 3, 4, 5).passedOver(), 1);
        DUE.is("passedOver(), NEAR ahead of FAR", of("!a&b|c", 0, 1, 2, 3, 4, 5).passedOver(), 1);
    }

    /** FAR leaves (a-a)&!(b|c) alone, which meets no other rule. */
    private static void passedOverGreatest() {
        MayBeRead x = of("(a-a)&!b|c", 1);
        int[] others = {0, 2, 3, 4, 5};
        for (int i = 0; i < others.length; i++) {
            DUE.is("passedOver() of " + i, x.passedOver(), i);
            x.choose(others[i]);
        }
        DUE.is("passedOver() of five", x.passedOver(), 5);
        DUE.is("leftOver(-1)", x.leftOver(-1), 1);
        DUE.is("leftOver(0)", x.leftOver(0), 0);
        // The last in the order is passed over as the first is.
        DUE.is("passedOver() of the first", of("a-a", 5, 0).passedOver(), 1);
        DUE.is("passedOver() of the last", of("a-a", 0, 5).passedOver(), 1);
    }

    // Promise 22: "QUARREL: 1, 0. -5; -1 (one twice, too)."

    private static void quarrelOneTwice() {
        for (int rule = 0; rule < 6; rule++) {
            int twice = rule;
            TWINS.refused("quarrel(" + rule + ", " + rule + ")", x -> x.quarrel(twice, twice), -1, LISTED);
        }
    }

    private static void quarrelNoRule() {
        for (int bad : NO_RULE) {
            TWINS.refused("quarrel(" + bad + ", 0)", x -> x.quarrel(bad, 0), -1, LISTED);
            TWINS.refused("quarrel(5, " + bad + ")", x -> x.quarrel(5, bad), -1, LISTED);
            TWINS.refused("quarrel(" + bad + ", " + bad + ")", x -> x.quarrel(bad, bad), -1, LISTED);
        }
        TWINS.changesNothing("quarrel(0, 5)", x -> x.quarrel(0, 5), 0, LISTED);
        TWINS.changesNothing("quarrel(5, 0)", x -> x.quarrel(5, 0), 0, LISTED);
    }

    /** "each is MET by some, both by none": not where one of the two is met by none. */
    private static void quarrelWhereOneIsMetByNone() {
        MayBeRead x = Due.of("a-a");
        for (int rule = 0; rule < 5; rule++) {
            DUE.is("quarrel(" + rule + ", 5) of a-a", x.quarrel(rule, 5), 0);
            DUE.is("quarrel(5, " + rule + ") of a-a", x.quarrel(5, rule), 0);
        }
        MayBeRead none = Due.of("b&(a-a)");
        DUE.is("quarrel(4, 5), both met by none", none.quarrel(4, 5), 0);
    }

    private static void quarrelOfEachPair() {
        // Of (a-a)&!b|c: (a-a)&!(b|c) FAR; (a-a)&((!b)|c) NEAR, AND FIRST not; ((a-a)&!b)|c NEAR, LEFT, AND FIRST, SOME.
        MayBeRead x = Due.of("(a-a)&!b|c");
        int[][] met = new int[3][6];
        for (int reading = 0; reading < 3; reading++) {
            for (int rule = 0; rule < 6; rule++) {
                met[reading][rule] = x.meets(reading, rule);
            }
        }
        for (int a = 0; a < 6; a++) {
            for (int b = 0; b < 6; b++) {
                int byA = 0;
                int byB = 0;
                int both = 0;
                for (int[] one : met) {
                    byA += one[a];
                    byB += one[b];
                    both += one[a] * one[b];
                }
                int want = a == b ? -1 : byA > 0 && byB > 0 && both == 0 ? 1 : 0;
                DUE.is("quarrel(" + a + ", " + b + ")", x.quarrel(a, b), want);
            }
        }
        DUE.is("quarrel(0, 1)", x.quarrel(0, 1), 1);
        DUE.is("quarrel(1, 2)", x.quarrel(1, 2), 1);
        DUE.is("quarrel(1, 5)", x.quarrel(1, 5), 1);
        DUE.is("quarrel(2, 3)", x.quarrel(2, 3), 0);
        DUE.is("quarrel does not hang on what is chosen", of("(a-a)&!b|c", 0, 2).quarrel(0, 1), 1);
    }

    // Promise 23: "HANGS (bits by KINDS). -5."

    private static void hangsOfNoRules() {
        TWINS.changesNothing("hangs()", MayBeRead::hangs, 0, Past.NEW);
        DUE.is("hangs() of none chosen", Due.of("!a&b|c").hangs(), 0);
    }

    private static void hangsOfEachRule() {
        String[] sentences = {"!a&b", "!a&b", "a&b&c", "a&b|c", "a|a&b", "!!a&a"};
        for (int rule = 0; rule < 6; rule++) {
            DUE.is("hangs() of " + rule + " by " + sentences[rule], of(sentences[rule], rule).hangs(), 1 << rule);
            DUE.is("hangs() of " + rule + " by a", of("a", rule).hangs(), 0);
        }
        // SOME is passed over: without it the same are left over.
        DUE.is("hangs() of SOME by a-a", of("a-a", 5).hangs(), 0);
        // Either of two that choose the same may go.
        DUE.is("hangs() of LEFT, AND FIRST by a&b|c", of("a&b|c", 2, 3).hangs(), 0);
    }

    private static void hangsOfSixRules() {
        DUE.is("hangs() of six by a", of("a", 0, 1, 2, 3, 4, 5).hangs(), 0);
        // FAR leaves one; without it NEAR, LEFT leave another.
        DUE.is("hangs() of six, FAR ahead", of("(a-a)&!b|c", 1, 0, 2, 3, 4, 5).hangs(), 2);
        MayBeRead x = of("(a-a)&!b|c", 1, 0, 2, 3, 4, 5);
        x.hangs();
        DUE.is("hangs() leaves the six", x.count(1), 6);
        DUE.is("hangs() leaves those passed over", x.passedOver(), 5);
        DUE.is("hangs() leaves those left over", x.leftOver(0), 0);
    }

    private static void askingChangesNothing() {
        TWINS.changesNothing("leftOver(0)", x -> x.leftOver(0), 4, Past.RICH);
        TWINS.changesNothing("passedOver()", MayBeRead::passedOver, 1, Past.RICH);
        TWINS.changesNothing("quarrel(0, 1)", x -> x.quarrel(0, 1), 1, Past.RICH);
        TWINS.changesNothing("hangs()", MayBeRead::hangs, 9, Past.RICH);
    }
}
