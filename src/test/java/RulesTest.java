/** Promises 17 to 23: rules for reading, which choose, quarrel and hang. */
public final class RulesTest {
    private static final Due DUE = new Due("RulesTest");
    private static final String SPENT = "a|a|a|a|a|a|a|a";
    private static final int NEAR = 0;
    private static final int FAR = 1;
    private static final int LEFT = 2;
    private static final int AND_FIRST = 3;
    private static final int NO_IDLE = 4;
    private static final int SOME = 5;

    public static void main(String[] args) {
        near();
        far();
        left();
        andFirst();
        noIdleAndSome();
        meetsRefused();
        choose();
        unchoose();
        leftOver();
        passedOver();
        quarrel();
        hangs();
        spent();
        DUE.finish();
    }

    /** For each reading whether it meets the rule. */
    private static void met(int rule, String sentence, int... want) {
        MayBeRead x = Due.of(sentence);
        DUE.is("readings() of " + sentence, x.readings(), want.length);
        for (int i = 0; i < want.length; i++) {
            DUE.is("meets(" + i + ", " + rule + ") of " + sentence, x.meets(i, rule), want[i]);
        }
    }

    private static void near() {
        met(NEAR, "a&b", 1);
        met(NEAR, "!a", 1);
        met(NEAR, "!a&b", 0, 1);
        met(NEAR, "!a|b", 0, 1);
        met(NEAR, "!a>b", 0, 1);
        met(NEAR, "!a-b", 0, 1);
        met(NEAR, "!(a&b)", 1);
        met(NEAR, "!((a&b))", 1);
        // Brackets around the "!", too, do not count: what it takes must be in brackets.
        met(NEAR, "(!a&b)", 0, 1);
        met(NEAR, "!(!a&b)", 0, 1);
        met(NEAR, "!!a&b", 0, 0, 1);
        met(NEAR, "!!(a&b)", 1);
        // !((a&b)|c) takes "|" outside of the brackets.
        met(NEAR, "!(a&b)|c", 0, 1);
    }

    private static void far() {
        met(FAR, "a&b", 1);
        met(FAR, "!a", 1);
        met(FAR, "!a&b", 1, 0);
        met(FAR, "a&!b", 1);
        met(FAR, "(!a)&b", 1);
        met(FAR, "(!a&b)|c", 1, 0);
        met(FAR, "!!a&b", 1, 0, 0);
        met(FAR, "!(a)&b", 1, 0);
        met(FAR, "((!a)&b)", 1);
        met(FAR, "!(!a)", 1);
        met(FAR, "(a&!b)|c", 1);
        met(FAR, "a&!b|c", 1, 0, 0);
    }

    private static void left() {
        met(LEFT, "a", 1);
        met(LEFT, "a&b&c", 0, 1);
        met(LEFT, "a&(b&c)", 1);
        // "!" is no bracket: a&!(b|c), a&((!b)|c), (a&!b)|c.
        met(LEFT, "a&!b|c", 0, 0, 1);
        met(LEFT, "a&!(b|c)", 1);
        met(LEFT, "!a&b", 1, 1);
        met(LEFT, "a-b|c", 0, 1);
        met(LEFT, "a>b-c", 0, 1);
        met(LEFT, "(a&b)|(c&d)", 1);
    }

    private static void andFirst() {
        met(AND_FIRST, "a&b&c", 1, 1);
        met(AND_FIRST, "a&b|c", 0, 1);
        met(AND_FIRST, "a|b&c", 1, 0);
        met(AND_FIRST, "a&b>c", 0, 1);
        met(AND_FIRST, "a>b&c", 1, 0);
        met(AND_FIRST, "a&b-c", 0, 1);
        met(AND_FIRST, "a-b&c", 1, 0);
        met(AND_FIRST, "a&(b|c)", 1);
        met(AND_FIRST, "(a-b)&c", 1);
        met(AND_FIRST, "a&!b|c", 0, 0, 1);
        met(AND_FIRST, "a|b>c-d", 1, 1, 1, 1, 1);
        // a&(b&(c|d)), a&((b&c)|d), (a&b)&(c|d), (a&(b&c))|d, ((a&b)&c)|d: an "&" between does not help.
        met(AND_FIRST, "a&b&c|d", 0, 0, 0, 1, 1);
    }

    private static void noIdleAndSome() {
        met(NO_IDLE, "a", 1);
        met(NO_IDLE, "a|a&b", 0, 1);
        met(NO_IDLE, "(a-a)&b", 0);
        met(NO_IDLE, "a-a", 1);
        met(SOME, "a", 1);
        met(SOME, "a-a", 0);
        met(SOME, "a>a", 0);
        met(SOME, "e|!e", 0);
        met(SOME, "!!a&a", 1, 0, 1);
        met(SOME, "a&b&c&d&e", 1, 1, 1, 1, 1, 1, 1, 1, 1, 1, 1, 1, 1, 1);
    }

    private static void meetsRefused() {
        MayBeRead x = Due.of("!a&b");
        DUE.is("meets(2, 0)", x.meets(2, 0), -1);
        DUE.is("meets(-1, 0)", x.meets(-1, 0), -1);
        DUE.is("meets(0, 6)", x.meets(0, 6), -1);
        DUE.is("meets(0, -1)", x.meets(0, -1), -1);
        DUE.is("meets(MIN, MAX)", x.meets(Integer.MIN_VALUE, Integer.MAX_VALUE), -1);
        DUE.is("count(11)", x.count(11), 5);
    }

    private static void choose() {
        MayBeRead x = new MayBeRead();
        DUE.is("choose(-1)", x.choose(-1), -1);
        DUE.is("choose(6)", x.choose(6), -1);
        DUE.is("choose(MAX)", x.choose(Integer.MAX_VALUE), -1);
        for (int i = 0; i < 6; i++) {
            DUE.is("choose(" + (5 - i) + ")", x.choose(5 - i), i + 1);
            DUE.is("choose(" + (5 - i) + ") twice", x.choose(5 - i), -3);
        }
        DUE.is("choose(0) when all are", x.choose(0), -3);
        DUE.is("choose(6) when all are", x.choose(6), -1);
        DUE.is("count(1)", x.count(1), 6);
        DUE.is("count(11)", x.count(11), 4);
        DUE.is("count(13)", x.count(13), 7);
        DUE.is("choose(0) where spent", Due.of(SPENT).choose(0), 1);
    }

    private static void unchoose() {
        MayBeRead x = Due.of("!a&b");
        DUE.is("unchoose() of none", x.unchoose(), 0);
        x.choose(NEAR);
        x.choose(LEFT);
        DUE.is("unchoose()", x.unchoose(), 2);
        DUE.is("count(1)", x.count(1), 0);
        DUE.is("leftOver(-1)", x.leftOver(-1), 2);
        DUE.is("choose(0) again", x.choose(NEAR), 1);
    }

    private static void leftOver() {
        // !(a&(b|c)), !((a&b)|c), (!a)&(b|c), (!(a&b))|c, ((!a)&b)|c
        MayBeRead x = Due.of("!a&b|c");
        DUE.is("leftOver(-1) of no rules", x.leftOver(-1), 5);
        DUE.is("leftOver(4) of no rules", x.leftOver(4), 4);
        DUE.is("leftOver(5) of no rules", x.leftOver(5), -9);
        x.choose(AND_FIRST);
        DUE.is("leftOver(-1) by AND FIRST", x.leftOver(-1), 3);
        DUE.is("leftOver(0) by AND FIRST", x.leftOver(0), 1);
        DUE.is("leftOver(1) by AND FIRST", x.leftOver(1), 3);
        DUE.is("leftOver(2) by AND FIRST", x.leftOver(2), 4);
        DUE.is("leftOver(3) by AND FIRST", x.leftOver(3), -9);
        x.choose(FAR);
        DUE.is("leftOver(-1) by FAR, too", x.leftOver(-1), 1);
        DUE.is("leftOver(0) by FAR, too", x.leftOver(0), 1);
        x.choose(NEAR);
        DUE.is("leftOver(-1) when NEAR is passed over", x.leftOver(-1), 1);
        DUE.is("leftOver(0) when NEAR is passed over", x.leftOver(0), 1);
        DUE.is("leftOver(1)", x.leftOver(1), -9);
        DUE.is("leftOver(MAX)", x.leftOver(Integer.MAX_VALUE), -9);
        DUE.is("leftOver(-2)", x.leftOver(-2), -1);
        DUE.is("leftOver(MIN)", x.leftOver(Integer.MIN_VALUE), -1);
        DUE.is("count(11)", x.count(11), 2);
        x.unchoose();
        x.choose(NEAR);
        x.choose(FAR);
        x.choose(AND_FIRST);
        DUE.is("leftOver(-1) in another order", x.leftOver(-1), 1);
        DUE.is("leftOver(0) in another order", x.leftOver(0), 4);
    }

    private static void passedOver() {
        MayBeRead x = Due.of("!a&b|c");
        DUE.is("passedOver() of no rules", x.passedOver(), 0);
        x.choose(NEAR);
        DUE.is("passedOver() of NEAR", x.passedOver(), 0);
        x.choose(FAR);
        DUE.is("passedOver() of FAR behind NEAR", x.passedOver(), 1);
        x.choose(LEFT);
        DUE.is("passedOver() of LEFT, too", x.passedOver(), 1);
        Due.read(x, "a-a");
        x.choose(SOME);
        DUE.is("passedOver() of SOME by a-a", x.passedOver(), 1);
        DUE.is("leftOver(-1) of a-a", x.leftOver(-1), 1);
        Due.read(x, "(b-b)&a");
        x.choose(NO_IDLE);
        DUE.is("passedOver() of SOME and NO IDLE", x.passedOver(), 2);
    }

    private static void quarrel() {
        MayBeRead x = Due.of("!a&b");
        DUE.is("quarrel(NEAR, FAR)", x.quarrel(NEAR, FAR), 1);
        DUE.is("quarrel(FAR, NEAR)", x.quarrel(FAR, NEAR), 1);
        DUE.is("quarrel(NEAR, LEFT)", x.quarrel(NEAR, LEFT), 0);
        DUE.is("quarrel(0, 0)", x.quarrel(0, 0), -1);
        DUE.is("quarrel(5, 5)", x.quarrel(5, 5), -1);
        DUE.is("quarrel(6, 0)", x.quarrel(6, 0), -1);
        DUE.is("quarrel(0, 6)", x.quarrel(0, 6), -1);
        DUE.is("quarrel(-1, 0)", x.quarrel(-1, 0), -1);
        DUE.is("quarrel(0, -1)", x.quarrel(0, -1), -1);
        DUE.is("quarrel(7, 7)", x.quarrel(7, 7), -1);
        DUE.is("count(11)", x.count(11), 7);
        // SOME is met by none.
        DUE.is("quarrel(SOME, NEAR) of a-a", Due.of("a-a").quarrel(SOME, NEAR), 0);
        DUE.is("quarrel(NEAR, SOME) of a-a", Due.of("a-a").quarrel(NEAR, SOME), 0);
        DUE.is("quarrel(NEAR, FAR) of a", Due.of("a").quarrel(NEAR, FAR), 0);
    }

    private static void hangs() {
        MayBeRead x = Due.of("!a&b|c");
        DUE.is("hangs() of no rules", x.hangs(), 0);
        x.choose(NEAR);
        DUE.is("hangs() of NEAR", x.hangs(), 1 << NEAR);
        x.choose(FAR);
        // FAR is passed over behind NEAR; without NEAR it chooses others.
        DUE.is("hangs() of NEAR, FAR", x.hangs(), 1 << NEAR);
        x.choose(SOME);
        DUE.is("hangs() of NEAR, FAR, SOME", x.hangs(), 1 << NEAR);
        // The two readings are of one meaning, and yet not the same readings are left over.
        MayBeRead one = Due.of("a&b&c");
        one.choose(LEFT);
        DUE.is("hangs() of LEFT by a&b&c", one.hangs(), 1 << LEFT);
        MayBeRead far = Due.of("!a&b|c");
        far.choose(FAR);
        far.choose(NEAR);
        DUE.is("hangs() of FAR, NEAR", far.hangs(), 1 << FAR);
        DUE.is("hangs() leaves the rules", far.count(1), 2);
        DUE.is("hangs() leaves what is left over", far.leftOver(-1), 2);
    }

    private static void spent() {
        MayBeRead x = Due.of(SPENT);
        DUE.is("meets(-1, -1) where spent", x.meets(-1, -1), -5);
        DUE.is("leftOver(-2) where spent", x.leftOver(-2), -5);
        DUE.is("passedOver() where spent", x.passedOver(), -5);
        DUE.is("quarrel(0, 0) where spent", x.quarrel(0, 0), -5);
        DUE.is("hangs() where spent", x.hangs(), -5);
        DUE.is("count(15)", x.count(15), 5);
        DUE.is("count(11)", x.count(11), 0);
    }
}
