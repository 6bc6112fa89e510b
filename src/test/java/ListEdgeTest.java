/** Promises 6 to 17 at their edges, and where the list ends: 200 READINGS are LISTED, 201 are SPENT. */
public final class ListEdgeTest {
    private static final Due DUE = new Due("ListEdgeTest");
    private static final Twins TWINS = new Twins(DUE);
    private static final Past[] LISTED = {Past.NEW, Past.RICH, Past.FULL};
    private static final int[] NO_READING = {-1, -2, 20, 200, Integer.MIN_VALUE, Integer.MAX_VALUE};
    private static final int[] NO_CASE = {-1, 32, 33, Integer.MIN_VALUE, Integer.MAX_VALUE};
    private static final int[] NO_RULE = {-1, 6, 7, Integer.MIN_VALUE, Integer.MAX_VALUE};
    private static final String OF_200 = "!!!!a&!!a&!!a&a";
    private static final String OF_201 = "!!a&!a&!!a&(!!a&a)";
    private static final long EVERY = 0xFFFFFFFFL;

    public static void main(String[] args) {
        listedWith200();
        spentWith201();
        spentComesFirst();
        spentNeverWhereNoListIsNeeded();
        lastReadingOf200();
        nodesEdges();
        nodeEdges();
        nodeOrderOfRefusals();
        meansEdges();
        letsEdges();
        mapEdges();
        allEdges();
        sameEdges();
        unlikeEdges();
        partEdges();
        idleEdges();
        needlessEdges();
        meetsEdges();
        askingChangesNothing();
        DUE.finish();
    }

    private interface Asked {
        void call(String name, Twins.Call call);
    }

    /** Every call that needs the list, as it is let. */
    private static void eachOfTheList(Asked asked) {
        asked.call("nodes(0)", x -> x.nodes(0));
        asked.call("node(0, 0, 0)", x -> x.node(0, 0, 0));
        asked.call("means(0)", x -> x.means(0));
        asked.call("lets(0, 0)", x -> x.lets(0, 0));
        asked.call("map(0)", x -> x.map(0));
        asked.call("all(true)", x -> x.all(true));
        asked.call("all(false)", x -> x.all(false));
        asked.call("same(0, 0)", x -> x.same(0, 0));
        asked.call("unlike()", MayBeRead::unlike);
        asked.call("idle(0)", x -> x.idle(0));
        asked.call("needless()", MayBeRead::needless);
        asked.call("meets(0, 0)", x -> x.meets(0, 0));
        asked.call("leftOver(-1)", x -> x.leftOver(-1));
        asked.call("passedOver()", MayBeRead::passedOver);
        asked.call("quarrel(0, 1)", x -> x.quarrel(0, 1));
        asked.call("hangs()", MayBeRead::hangs);
        asked.call("test()", MayBeRead::test);
        asked.call("fewest()", MayBeRead::fewest);
        asked.call("mend(0)", x -> x.mend(0));
        asked.call("best()", MayBeRead::best);
    }

    // "LISTED: if they are 200 or fewer; else what needs the list is SPENT."

    private static void listedWith200() {
        DUE.is("readings() of " + OF_200, Due.of(OF_200).readings(), 200);
        eachOfTheList((name, call) -> {
            MayBeRead x = Due.of(OF_200);
            DUE.that(name + " of 200 readings is answered", call.of(x) >= 0);
            DUE.is("count(15) after " + name, x.count(15), 0);
        });
        MayBeRead x = Due.of(OF_200);
        DUE.is("part(0, 0) of 200 readings", x.part(0, 0), -9);
        DUE.is("serves(0) of 200 readings", x.serves(0), 0);
        DUE.is("count(15)", x.count(15), 0);
    }

    private static void spentWith201() {
        DUE.is("readings() of " + OF_201, Due.of(OF_201).readings(), 201);
        eachOfTheList((name, call) -> {
            MayBeRead x = Due.of(OF_201);
            DUE.is(name + " of 201 readings", call.of(x), -5);
            DUE.is("count(15) after " + name, x.count(15), 1);
            TWINS.refused(name, call, -5, Past.SPENT);
        });
        DUE.is("part(0, 0) of 201 readings", Due.of(OF_201).part(0, 0), -5);
        DUE.is("serves(0) of 201 readings", Due.of(OF_201).serves(0), 1000000005);
        TWINS.refused("part(0, 0)", x -> x.part(0, 0), -5, Past.SPENT);
        TWINS.servesRefused("serves(0)", x -> x.serves(0), -5, Past.SPENT);
    }

    /** Each promise tells -5 ahead of what else it refuses. */
    private static void spentComesFirst() {
        for (int bad : new int[] {-2, -1, 32, 4862, Integer.MIN_VALUE, Integer.MAX_VALUE}) {
            spent("nodes(" + bad + ")", x -> x.nodes(bad));
            spent("node(" + bad + ", 0, 0)", x -> x.node(bad, 0, 0));
            spent("node(0, " + bad + ", 0)", x -> x.node(0, bad, 0));
            spent("node(0, 0, " + bad + ")", x -> x.node(0, 0, bad));
            spent("means(" + bad + ")", x -> x.means(bad));
            spent("lets(" + bad + ", 0)", x -> x.lets(bad, 0));
            spent("lets(0, " + bad + ")", x -> x.lets(0, bad));
            spent("map(" + bad + ")", x -> x.map(bad));
            spent("same(" + bad + ", 0)", x -> x.same(bad, 0));
            spent("same(0, " + bad + ")", x -> x.same(0, bad));
            spent("part(" + bad + ", 0)", x -> x.part(bad, 0));
            spent("part(0, " + bad + ")", x -> x.part(0, bad));
            spent("idle(" + bad + ")", x -> x.idle(bad));
            spent("meets(" + bad + ", 0)", x -> x.meets(bad, 0));
            spent("meets(0, " + bad + ")", x -> x.meets(0, bad));
            spent("leftOver(" + bad + ")", x -> x.leftOver(bad));
            spent("quarrel(" + bad + ", 0)", x -> x.quarrel(bad, 0));
            spent("quarrel(0, " + bad + ")", x -> x.quarrel(0, bad));
            spent("mend(" + bad + ")", x -> x.mend(bad));
            TWINS.servesRefused("serves(" + bad + ")", x -> x.serves(bad), -5, Past.SPENT);
        }
        spent("quarrel(3, 3)", x -> x.quarrel(3, 3));
    }

    private static void spent(String name, Twins.Call call) {
        TWINS.refused(name, call, -5, Past.SPENT);
    }

    private static void spentNeverWhereNoListIsNeeded() {
        MayBeRead x = new MayBeRead();
        Past.SPENT.of(x);
        int were = x.count(15);
        DUE.is("wordAt(18)", x.wordAt(18), 'e');
        DUE.is("readings()", x.readings(), 4862);
        DUE.is("choose(0)", x.choose(0), 3);
        DUE.is("unchoose()", x.unchoose(), 3);
        DUE.is("aim(0, 0)", x.aim(0, 0), 2);
        DUE.is("image()", x.image(), 19);
        DUE.is("bracket(0, 18)", x.bracket(0, 18), 21);
        DUE.is("readings() in brackets", x.readings(), 4862);
        DUE.is("on()", x.on(), 19);
        DUE.is("feed(1)", x.feed(1, '&'), 5);
        DUE.is("read() of !b|a&", x.read(), -25);
        DUE.is("count(0)", x.count(0), 19);
        DUE.is("count(15)", x.count(15), were);
        // A shorter one is listed again.
        Due.read(x, "a-b-c");
        DUE.is("unlike() of a-b-c", x.unlike(), 2);
        Due.read(x, OF_201);
        DUE.is("unlike() of 201", x.unlike(), -5);
    }

    private static void lastReadingOf200() {
        MayBeRead x = Due.of(OF_200);
        DUE.is("nodes(199)", x.nodes(199), 15);
        DUE.is("node(199, 14, 2)", x.node(199, 14, 2), 1);
        DUE.is("meets(199, 0)", x.meets(199, 0), 1);
        DUE.is("same(199, 199)", x.same(199, 199), 1);
        DUE.is("leftOver(199)", x.leftOver(199), 199);
        DUE.is("leftOver(200)", x.leftOver(200), -9);
        DUE.is("serves(199)", x.serves(199), 0);
        DUE.is("nodes(200)", x.nodes(200), -1);
        DUE.is("means(200)", x.means(200), -1);
        DUE.is("serves(200)", x.serves(200), 1000000001);
        DUE.is("mend(200)", x.mend(200), -1);
        DUE.is("count(11)", x.count(11), 4);
    }

    private interface OfReading {
        long of(MayBeRead x, int reading);
    }

    /** -1 below the first and above the last READING, in each past; from the first to the last no refusal. */
    private static void readingEdges(String name, OfReading call) {
        for (int bad : NO_READING) {
            TWINS.refused(name + " of " + bad, x -> call.of(x, bad), -1, LISTED);
        }
        int[] readings = {1, 5, 20};
        for (int i = 0; i < LISTED.length; i++) {
            int many = readings[i];
            TWINS.refused(name + " of " + many, x -> call.of(x, many), -1, LISTED[i]);
            for (int good : new int[] {0, many - 1}) {
                MayBeRead x = new MayBeRead();
                LISTED[i].of(x);
                int were = x.count(11);
                DUE.that(name + " of " + good + " is let", call.of(x, good) != -1);
                DUE.is("count(11) then", x.count(11), were);
            }
        }
    }

    // Promise 6: "How many NODES. -5; -1."

    private static void nodesEdges() {
        readingEdges("nodes", (x, reading) -> x.nodes(reading));
        DUE.is("nodes(0) of a", new MayBeRead().nodes(0), 1);
        DUE.is("nodes(1) of a", new MayBeRead().nodes(1), -1);
        DUE.is("nodes(0) of 21", Due.of("!!!!!!!!!!!!!!!!!!!!a").nodes(0), 21);
        DUE.is("nodes(0) of ((((a))))", Due.of("((((a))))").nodes(0), 5);
        DUE.is("nodes(4) of !a&b|c", Due.of("!a&b|c").nodes(4), 6);
        DUE.is("nodes(5) of !a&b|c", Due.of("!a&b|c").nodes(5), -1);
    }

    // Promise 7: "Of a NODE: 0 KIND, 1 where it begins, 2 how many WORDS. -5; -1 either; -2."

    private static void nodeEdges() {
        readingEdges("node", (x, reading) -> x.node(reading, 0, 0));
        for (int bad : new int[] {-1, 21, 22, Integer.MIN_VALUE, Integer.MAX_VALUE}) {
            TWINS.refused("node(0, " + bad + ", 0)", x -> x.node(0, bad, 0), -1, LISTED);
        }
        for (int bad : new int[] {-1, 3, 4, Integer.MIN_VALUE, Integer.MAX_VALUE}) {
            TWINS.refused("node(0, 0, " + bad + ")", x -> x.node(0, 0, bad), -2, LISTED);
        }
        TWINS.refused("node(0, 6, 0)", x -> x.node(0, 6, 0), -1, Past.RICH);
        TWINS.refused("node(0, 1, 0)", x -> x.node(0, 1, 0), -1, Past.NEW);
        MayBeRead x = Due.of("!!!!!!!!!!!!!!!!!!!!a");
        for (int i = 0; i < 21; i++) {
            DUE.is("node(0, " + i + ", 0)", x.node(0, i, 0), i < 20 ? 1 : 0);
            DUE.is("node(0, " + i + ", 1)", x.node(0, i, 1), i);
            DUE.is("node(0, " + i + ", 2)", x.node(0, i, 2), 21 - i);
        }
        // Each of the KINDS 0 .. 6.
        String[] sentences = {"e", "!e", "(e)", "d&e", "d|e", "d>e", "d-e"};
        for (int kind = 0; kind < sentences.length; kind++) {
            MayBeRead one = Due.of(sentences[kind]);
            DUE.is("KIND of " + sentences[kind], one.node(0, 0, 0), kind);
            DUE.is("where it begins", one.node(0, 0, 1), 0);
            DUE.is("how many WORDS", one.node(0, 0, 2), sentences[kind].length());
        }
    }

    private static void nodeOrderOfRefusals() {
        TWINS.refused("node(-1, 0, 3)", x -> x.node(-1, 0, 3), -1, LISTED);
        TWINS.refused("node(20, 0, -1)", x -> x.node(20, 0, -1), -1, LISTED);
        TWINS.refused("node(0, -1, 3)", x -> x.node(0, -1, 3), -1, LISTED);
        TWINS.refused("node(0, 21, -1)", x -> x.node(0, 21, -1), -1, LISTED);
        TWINS.refused("node(-1, -1, -1)", x -> x.node(-1, -1, -1), -1, LISTED);
    }

    // Promise 8: "MEANING (REFUSALS as they are). -5; -1."

    private static void meansEdges() {
        readingEdges("means", (x, reading) -> x.means(reading));
        DUE.is("means(0) that lets none", Due.of("a-a").means(0), 0);
        DUE.is("means(0) that lets all is no number below 0", Due.of("a>a").means(0), EVERY);
        DUE.is("means(0) that lets 31 alone", Due.of("((a&b)&c)&(d&e)").means(0), 1L << 31);
        DUE.is("means(0) that lets 0 alone", Due.of("!((a|b)|(c|(d|e)))").means(0), 1);
    }

    // Promise 9: "Whether it LETS a CASE: 1, 0. -5; -1 either."

    private static void letsEdges() {
        readingEdges("lets", (x, reading) -> x.lets(reading, 0));
        for (int bad : NO_CASE) {
            TWINS.refused("lets(0, " + bad + ")", x -> x.lets(0, bad), -1, LISTED);
        }
        TWINS.refused("lets(-1, 32)", x -> x.lets(-1, 32), -1, LISTED);
        MayBeRead last = Due.of("((a&b)&c)&(d&e)");
        MayBeRead first = Due.of("!((a|b)|(c|(d|e)))");
        for (int set = 0; set < 32; set++) {
            DUE.is("lets(0, " + set + ") of 31 alone", last.lets(0, set), set == 31 ? 1 : 0);
            DUE.is("lets(0, " + set + ") of 0 alone", first.lets(0, set), set == 0 ? 1 : 0);
        }
    }

    // Promise 10: "MAP. -5; -1."

    private static void mapEdges() {
        for (int bad : NO_CASE) {
            TWINS.refused("map(" + bad + ")", x -> x.map(bad), -1, LISTED);
        }
        MayBeRead none = Due.of("(a-a)&b&c&d&e&a");
        MayBeRead every = Due.of("(a>a)|b|c|d|e|a");
        DUE.is("readings()", every.readings(), 42);
        for (int set : new int[] {0, 1, 30, 31}) {
            DUE.is("map(" + set + ") where none let", none.map(set), 0);
            DUE.is("map(" + set + ") where all let", every.map(set), 42);
        }
        DUE.is("map(1) of one reading", new MayBeRead().map(1), 1);
        DUE.is("map(0) of one reading", new MayBeRead().map(0), 0);
        MayBeRead most = Due.of("(" + OF_200 + ")|b");
        DUE.is("readings() in brackets", most.readings(), 200);
        DUE.is("map(2) where all 200 let", most.map(2), 200);
    }

    // Promise 11: "CASES that all LET (bar). -5."

    private static void allEdges() {
        DUE.is("all(true) where all let all", Due.of("a>a").all(true), EVERY);
        DUE.is("all(false) where all let all", Due.of("a>a").all(false), 0);
        DUE.is("all(true) where all bar all", Due.of("a-a").all(true), 0);
        DUE.is("all(false) where all bar all", Due.of("a-a").all(false), EVERY);
        DUE.is("all(true) of 31 alone", Due.of("((a&b)&c)&(d&e)").all(true), 1L << 31);
        // !((a)&a), (!a)&a, which lets none.
        DUE.is("all(true) of !a&a", Due.of("!a&a").all(true), 0);
        DUE.is("all(false) of !a&a", Due.of("!a&a").all(false), 0xAAAAAAAAL);
    }

    // Promise 12: "SAME: 1, 0. -5; -1."

    private static void sameEdges() {
        readingEdges("same, the first", (x, reading) -> x.same(reading, 0));
        readingEdges("same, the second", (x, reading) -> x.same(0, reading));
        readingEdges("same, both", (x, reading) -> x.same(reading, reading));
        DUE.is("same(0, 0) of a", new MayBeRead().same(0, 0), 1);
        DUE.is("same(4, 4) of !a&b|c", Due.of("!a&b|c").same(4, 4), 1);
        DUE.is("same(0, 4) of !a&b|c", Due.of("!a&b|c").same(0, 4), 0);
        DUE.is("same(4, 5) of !a&b|c", Due.of("!a&b|c").same(4, 5), -1);
        DUE.is("same(0, 13) of a|b|c|d|e", Due.of("a|b|c|d|e").same(0, 13), 1);
        // Two that differ in the last case alone.
        DUE.is("same(0, 2) but for 31", Due.of("(a&b&c)|(c&d)-(d&e)").same(0, 2), 0);
    }

    // Promise 13: "UNLIKE. -5."

    private static void unlikeEdges() {
        DUE.is("unlike() of one reading", new MayBeRead().unlike(), 1);
        DUE.is("unlike() of 14 readings of one meaning", Due.of("a|b|c|d|e").unlike(), 1);
        DUE.is("unlike() of all readings", Due.of("!a&b|c").unlike(), 5);
        DUE.is("unlike() of 200", Due.of(OF_200).unlike(), 2);
    }

    // Promise 14: "PART; -9 they are SAME. -5; -1."

    private static void partEdges() {
        readingEdges("part, the first", (x, reading) -> x.part(reading, 0));
        readingEdges("part, the second", (x, reading) -> x.part(0, reading));
        readingEdges("part, both", (x, reading) -> x.part(reading, reading));
        TWINS.changesNothing("part(0, 0)", x -> x.part(0, 0), -9, LISTED);
        DUE.is("part(0, 13) of one meaning", Due.of("a|b|c|d|e").part(0, 13), -9);
        DUE.is("part(0, 1) at 0", Due.of("!a&a").part(0, 1), 0);
        DUE.is("part(0, 2) at 31", Due.of("(a&b&c)|(c&d)-(d&e)").part(0, 2), 31);
        DUE.is("part(2, 0) at 31", Due.of("(a&b&c)|(c&d)-(d&e)").part(2, 0), 31);
    }

    // Promise 15: "IDLE places (bits). -5; -1."

    private static void idleEdges() {
        readingEdges("idle", (x, reading) -> x.idle(reading));
        DUE.is("idle(0) of a", new MayBeRead().idle(0), 0);
        DUE.is("idle(0) at place 0", Due.of("b&(a-a)").idle(0), 1);
        // An even number of "!" ahead of (a-a) leaves it never so, and b idle.
        MayBeRead x = Due.of("!!!!!!!!!!!!!!(a-a)&b");
        for (int reading = 0; reading < 15; reading++) {
            DUE.is("idle(" + reading + ") at place 20", x.idle(reading), reading % 2 == 0 ? 1 << 20 : 0);
        }
        // That one letter alone, not the other of the same mark: each a is needed though the meaning is none.
        DUE.is("idle(0) of a-a", Due.of("a-a").idle(0), 0);
    }

    // Promise 16: "NEEDLESS places (bits). -5."

    private static void needlessEdges() {
        DUE.is("needless() of a", new MayBeRead().needless(), 0);
        DUE.is("needless() at place 0", Due.of("b&(a-a)").needless(), 1);
        DUE.is("needless() at place 20", Due.of("((((a-a)&(b&c))&d))&e").needless(), 1 << 10 | 1 << 12 | 1 << 16 | 1 << 20);
        DUE.is("needless() where one reading needs it", Due.of("!!!!!!!!!!!!!!(a-a)&b").needless(), 0);
        // Idle in a|(a&b) is b, in (a|a)&b none.
        DUE.is("needless() of a|a&b", Due.of("a|a&b").needless(), 0);
    }

    // Promise 17: "MET: 1, 0. -5; -1 either."

    private static void meetsEdges() {
        readingEdges("meets", (x, reading) -> x.meets(reading, 0));
        for (int bad : NO_RULE) {
            TWINS.refused("meets(0, " + bad + ")", x -> x.meets(0, bad), -1, LISTED);
        }
        TWINS.refused("meets(-1, 6)", x -> x.meets(-1, 6), -1, LISTED);
        for (int rule = 0; rule < 6; rule++) {
            DUE.is("meets(0, " + rule + ") of a", new MayBeRead().meets(0, rule), 1);
        }
        DUE.is("meets(0, 0) of !a&b", Due.of("!a&b").meets(0, 0), 0);
        DUE.is("meets(0, 5) of a-a", Due.of("a-a").meets(0, 5), 0);
        DUE.is("meets(0, 5) of a>a", Due.of("a>a").meets(0, 5), 0);
        DUE.is("meets(0, 5) of 31 alone", Due.of("((a&b)&c)&(d&e)").meets(0, 5), 1);
        DUE.is("meets(0, 5) of all but 0", Due.of("(a|b)|(c|(d|e))").meets(0, 5), 1);
        DUE.is("meets(0, 4) of idle at place 0", Due.of("b&(a-a)").meets(0, 4), 0);
        DUE.is("meets(0, 4) of idle at place 20", Due.of("!!!!!!!!!!!!!!(a-a)&b").meets(0, 4), 0);
        DUE.is("meets(1, 4) of none idle", Due.of("!!!!!!!!!!!!!!(a-a)&b").meets(1, 4), 1);
    }

    private static void askingChangesNothing() {
        TWINS.changesNothing("nodes(4)", x -> x.nodes(4), 6, Past.RICH);
        TWINS.changesNothing("node(4, 5, 2)", x -> x.node(4, 5, 2), 1, Past.RICH);
        TWINS.changesNothing("means(4)", x -> x.means(4), 4109694196L, Past.RICH);
        TWINS.changesNothing("lets(4, 7)", x -> x.lets(4, 7), 1, Past.RICH);
        TWINS.changesNothing("map(4)", x -> x.map(4), 4, Past.RICH);
        TWINS.changesNothing("all(true)", x -> x.all(true), 67372036, Past.RICH);
        TWINS.changesNothing("all(false)", x -> x.all(false), 134744072, Past.RICH);
        TWINS.changesNothing("same(0, 1)", x -> x.same(0, 1), 0, Past.RICH);
        TWINS.changesNothing("unlike()", MayBeRead::unlike, 5, Past.RICH);
        TWINS.changesNothing("part(0, 1)", x -> x.part(0, 1), 4, Past.RICH);
        TWINS.changesNothing("idle(0)", x -> x.idle(0), 0, Past.RICH);
        TWINS.changesNothing("needless()", MayBeRead::needless, 0, Past.RICH);
        TWINS.changesNothing("meets(4, 2)", x -> x.meets(4, 2), 1, Past.RICH);
    }
}
