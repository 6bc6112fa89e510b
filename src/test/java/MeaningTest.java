/** Promises 8 to 16: what the readings mean, where they part, what is idle in them. */
public final class MeaningTest {
    private static final Due DUE = new Due("MeaningTest");
    private static final String SPENT = "a|a|a|a|a|a|a|a";
    private static final long A = 0xAAAAAAAAL;
    private static final long B = 0xCCCCCCCCL;
    private static final long C = 0xF0F0F0F0L;
    private static final long EVERY = 0xFFFFFFFFL;

    public static void main(String[] args) {
        means();
        lets();
        map();
        all();
        same();
        unlike();
        part();
        idle();
        needless();
        DUE.finish();
    }

    private static void means(String sentence, int reading, long want) {
        DUE.is("means(" + reading + ") of " + sentence, Due.of(sentence).means(reading), want);
    }

    private static void means() {
        means("a", 0, A);
        means("b", 0, B);
        means("c", 0, C);
        means("d", 0, 0xFF00FF00L);
        means("e", 0, 0xFFFF0000L);
        means("a&b", 0, 0x88888888L);
        means("a|b", 0, 0xEEEEEEEEL);
        means("a>b", 0, 0xDDDDDDDDL);
        means("a-b", 0, 0x22222222L);
        means("b>a", 0, 0xBBBBBBBBL);
        means("b-a", 0, 0x44444444L);
        means("!a", 0, 0x55555555L);
        means("!!a", 0, A);
        means("((a))", 0, A);
        means("!(a&b)", 0, 0x77777777L);
        means("a>a", 0, EVERY);
        means("a-a", 0, 0);
        means("a-b-c", 0, A & ~(B & ~C));
        means("a-b-c", 1, A & ~B & ~C);
        means("!a|e", 0, 0x55555555L & 0x0000FFFFL);
        means("!a|e", 1, 0xFFFF5555L);
        MayBeRead x = Due.of("a-b-c");
        DUE.is("means(2)", x.means(2), -1);
        DUE.is("means(-1)", x.means(-1), -1);
        DUE.is("means(MIN)", x.means(Integer.MIN_VALUE), -1);
        DUE.is("count(11)", x.count(11), 3);
        DUE.is("means(-1) where spent", Due.of(SPENT).means(-1), -5);
    }

    private static void lets() {
        MayBeRead x = Due.of("a-b-c");
        long[] meanings = {A & ~(B & ~C), A & ~B & ~C};
        for (int reading = 0; reading < 2; reading++) {
            for (int set = 0; set < 32; set++) {
                DUE.is("lets(" + reading + ", " + set + ")", x.lets(reading, set), meanings[reading] >> set & 1);
            }
        }
        DUE.is("lets(0, 32)", x.lets(0, 32), -1);
        DUE.is("lets(0, -1)", x.lets(0, -1), -1);
        DUE.is("lets(0, MAX)", x.lets(0, Integer.MAX_VALUE), -1);
        DUE.is("lets(2, 0)", x.lets(2, 0), -1);
        DUE.is("lets(-1, 0)", x.lets(-1, 0), -1);
        DUE.is("lets(-1, -1)", x.lets(-1, -1), -1);
        DUE.is("count(11)", x.count(11), 6);
        DUE.is("lets(0, 31) of e", Due.of("e").lets(0, 31), 1);
        DUE.is("lets(9, 99) where spent", Due.of(SPENT).lets(9, 99), -5);
    }

    private static void map() {
        // Reading 0 lets a without b, and a with b and c; reading 1 lets a with neither b nor c.
        MayBeRead x = Due.of("a-b-c");
        int[] want = {0, 2, 0, 0, 0, 1, 0, 1};
        for (int set = 0; set < 32; set++) {
            DUE.is("map(" + set + ")", x.map(set), want[set % 8]);
        }
        DUE.is("map(32)", x.map(32), -1);
        DUE.is("map(-1)", x.map(-1), -1);
        DUE.is("map(MIN)", x.map(Integer.MIN_VALUE), -1);
        DUE.is("count(11)", x.count(11), 3);
        DUE.is("map(32) where spent", Due.of(SPENT).map(32), -5);
    }

    private static void all() {
        MayBeRead x = Due.of("a-b-c");
        DUE.is("all(true)", x.all(true), 0x02020202L);
        DUE.is("all(false)", x.all(false), ~0xA2A2A2A2L & EVERY);
        DUE.is("all(true) of e>e", Due.of("e>e").all(true), EVERY);
        DUE.is("all(false) of e>e", Due.of("e>e").all(false), 0);
        DUE.is("all(true) of e-e", Due.of("e-e").all(true), 0);
        DUE.is("all(false) of e-e", Due.of("e-e").all(false), EVERY);
        MayBeRead spent = Due.of(SPENT);
        DUE.is("all(true) where spent", spent.all(true), -5);
        DUE.is("all(false) where spent", spent.all(false), -5);
        DUE.is("count(15)", spent.count(15), 2);
    }

    private static void same() {
        MayBeRead x = Due.of("!!a&a");
        // The readings mean a, all, a.
        DUE.is("same(0, 2)", x.same(0, 2), 1);
        DUE.is("same(2, 0)", x.same(2, 0), 1);
        DUE.is("same(0, 1)", x.same(0, 1), 0);
        DUE.is("same(1, 1)", x.same(1, 1), 1);
        DUE.is("same(3, 0)", x.same(3, 0), -1);
        DUE.is("same(0, 3)", x.same(0, 3), -1);
        DUE.is("same(-1, 0)", x.same(-1, 0), -1);
        DUE.is("same(0, -1)", x.same(0, -1), -1);
        DUE.is("count(11)", x.count(11), 4);
        DUE.is("same(-1, 0) where spent", Due.of(SPENT).same(-1, 0), -5);
    }

    private static void unlike() {
        DUE.is("unlike() of a", Due.of("a").unlike(), 1);
        DUE.is("unlike() of a&b&c", Due.of("a&b&c").unlike(), 1);
        DUE.is("unlike() of a-b-c", Due.of("a-b-c").unlike(), 2);
        DUE.is("unlike() of !!a&a", Due.of("!!a&a").unlike(), 2);
        DUE.is("unlike() of !a&b|c", Due.of("!a&b|c").unlike(), 5);
        DUE.is("unlike() of a|a|a|a|a|a|a", Due.of("a|a|a|a|a|a|a").unlike(), 1);
        DUE.is("unlike() where spent", Due.of(SPENT).unlike(), -5);
    }

    private static void part() {
        MayBeRead x = Due.of("a-b-c");
        DUE.is("part(0, 1)", x.part(0, 1), 5);
        DUE.is("part(1, 0)", x.part(1, 0), 5);
        DUE.is("part(1, 1)", x.part(1, 1), -9);
        DUE.is("part(2, 0)", x.part(2, 0), -1);
        DUE.is("part(0, 2)", x.part(0, 2), -1);
        DUE.is("part(-1, -1)", x.part(-1, -1), -1);
        DUE.is("count(11)", x.count(11), 3);
        DUE.is("part(0, 2) of !!a&a", Due.of("!!a&a").part(0, 2), -9);
        DUE.is("part(0, 1) of !!a&a", Due.of("!!a&a").part(0, 1), 0);
        // (!a)|e and !(a|e) part at the least case with e alone so.
        DUE.is("part(0, 1) of !a|e", Due.of("!a|e").part(0, 1), 16);
        // Whether "-" takes a&b&c, too, matters only where d and e are so beside them: at the last case.
        DUE.is("part(0, 2) at 31", Due.of("(a&b&c)|(c&d)-(d&e)").part(0, 2), 31);
        DUE.is("part(0, 1) of one meaning", Due.of("(a&b&c)|(c&d)-(d&e)").part(0, 1), -9);
        DUE.is("part(9, 9) where spent", Due.of(SPENT).part(9, -9), -5);
    }

    private static void idle() {
        DUE.is("idle(0) of a", Due.of("a").idle(0), 0);
        DUE.is("idle(0) of a-a", Due.of("a-a").idle(0), 0);
        MayBeRead x = Due.of("a|a&b");
        // a|(a&b): b changes nothing; (a|a)&b: each letter does.
        DUE.is("idle(0) of a|a&b", x.idle(0), 1 << 4);
        DUE.is("idle(1) of a|a&b", x.idle(1), 0);
        DUE.is("idle(2) of a|a&b", x.idle(2), -1);
        DUE.is("idle(-1) of a|a&b", x.idle(-1), -1);
        DUE.is("count(11)", x.count(11), 2);
        DUE.is("idle(0) of (a-a)&b", Due.of("(a-a)&b").idle(0), 1 << 6);
        DUE.is("idle(0) of b&(a-a)", Due.of("b&(a-a)").idle(0), 1);
        DUE.is("idle(0) of (a>a)|b", Due.of("(a>a)|b").idle(0), 1 << 6);
        DUE.is("idle(0) of b|(a>a)", Due.of("b|(a>a)").idle(0), 1);
        DUE.is("idle(0) of (a-a)>b", Due.of("(a-a)>b").idle(0), 1 << 6);
        DUE.is("idle(0) of b>(a>a)", Due.of("b>(a>a)").idle(0), 1);
        DUE.is("idle(0) of (a-a)-b", Due.of("(a-a)-b").idle(0), 1 << 6);
        DUE.is("idle(0) of b-(a>a)", Due.of("b-(a>a)").idle(0), 1);
        DUE.is("idle(0) of !(b&(a-a))", Due.of("!(b&(a-a))").idle(0), 1 << 2);
        DUE.is("idle(0) of a&a", Due.of("a&a").idle(0), 0);
        DUE.is("idle(0) of (a&(b-b)&c)|d|e", Due.of("(a&(b-b)&c)|(d-d)").idle(0), 1 << 1 | 1 << 9);
        DUE.is("idle(-1) where spent", Due.of(SPENT).idle(-1), -5);
    }

    private static void needless() {
        DUE.is("needless() of a", Due.of("a").needless(), 0);
        DUE.is("needless() of a|a&b", Due.of("a|a&b").needless(), 0);
        DUE.is("needless() of (a-a)&b", Due.of("(a-a)&b").needless(), 1 << 6);
        DUE.is("needless() of (a-a)&b&c", Due.of("(a-a)&b&c").needless(), 1 << 6 | 1 << 8);
        DUE.is("needless() of 21 words", Due.of("a&b&c&((d-d)&(c))&(e)").needless(), needlessOf21());
        DUE.is("needless() where spent", Due.of(SPENT).needless(), -5);
    }

    /** All letters but both d are idle beside (d-d), which is never so. */
    private static int needlessOf21() {
        return 1 << 0 | 1 << 2 | 1 << 4 | 1 << 14 | 1 << 19;
    }
}
