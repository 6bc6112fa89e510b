/**
 * A sentence with and, or, if, unless and not, in as many readings as its grammar lets.
 * The document ../shared/DOC.md numbers what each public method promises.
 */
public final class MayBeRead {
    private static final int MOST_WORDS = 21;
    private static final int MOST_OPEN = 4;
    private static final int MOST_FED = 8;
    private static final int MOST_LISTED = 200;
    private static final int MOST_AIMS = 8;
    private static final int MOST_WEIGHT = 99;

    private static final int CASES = 32;
    private static final long EVERY_CASE = 0xFFFFFFFFL;
    private static final long[] MARK_CASES = {0xAAAAAAAAL, 0xCCCCCCCCL, 0xF0F0F0F0L, 0xFF00FF00L, 0xFFFF0000L};

    private static final int LETTER = 0;
    private static final int NOT = 1;
    private static final int BRACKETS = 2;
    private static final int AND = 3;
    private static final int OR = 4;
    private static final int IF = 5;
    private static final int UNLESS = 6;
    private static final int NO_KIND = -1;

    private static final int NEAR = 0;
    private static final int FAR = 1;
    private static final int LEFT = 2;
    private static final int AND_FIRST = 3;
    private static final int NO_IDLE = 4;
    private static final int SOME = 5;
    private static final int RULES = 6;
    private static final int NO_RULE = -1;

    private static final int NOBODY = -1;
    private static final int OTHER = -2;
    private static final int STATE = -3;
    private static final int BELOW = -4;
    private static final int SPENT = -5;
    private static final int ROOM = -6;
    private static final int NONE = -9;
    private static final int FAULTY = -20;
    private static final int NO_FAULT = -1;
    private static final int SERVES_REFUSED = 1000000000;

    private final Words tape = new Words();
    private final Words sentence = new Words();
    private final Words draft = new Words();
    private final Ways ways = new Ways();
    private final Tree tree = new Tree();
    private final Listing listing = new Listing();
    private final Unlike unlikeOnes = new Unlike();
    private final Order order = new Order();
    private final Sieve sieve = new Sieve();
    private final Sieve otherSieve = new Sieve();
    private final Mender mender = new Mender();
    private final Aims aims = new Aims();
    private final Image taken = new Image();
    private final int[] refused = new int[1 - ROOM];

    public MayBeRead() {
        sentence.add('a');
        ways.reckon(sentence);
    }

    public int feed(int n, long bytes) {
        if (n < 1) {
            return refuse(BELOW);
        }
        if (n > MOST_FED || tape.size() + n > MOST_WORDS) {
            return refuse(ROOM);
        }
        for (int i = 0; i < n; i++) {
            tape.add((int) (bytes >>> 8 * i & 0xFF));
        }
        return tape.size();
    }

    public int read() {
        int fault = tape.fault();
        if (fault == NO_FAULT) {
            takeSentence(tape);
        }
        tape.clear();
        return fault == NO_FAULT ? sentence.size() : FAULTY - fault;
    }

    public int wordAt(int i) {
        return i >= 0 && i < sentence.size() ? sentence.at(i) : NONE;
    }

    public long readings() {
        return ways.number(0, sentence.size());
    }

    public int nodes(int reading) {
        if (spent()) {
            return refuse(SPENT);
        }
        if (noReading(reading)) {
            return refuse(NOBODY);
        }
        tree.grow(sentence, ways, reading);
        return tree.size();
    }

    public int node(int reading, int i, int what) {
        if (spent()) {
            return refuse(SPENT);
        }
        if (noReading(reading)) {
            return refuse(NOBODY);
        }
        tree.grow(sentence, ways, reading);
        if (i < 0 || i >= tree.size()) {
            return refuse(NOBODY);
        }
        switch (what) {
            case 0:
                return tree.kind(i);
            case 1:
                return tree.from(i);
            case 2:
                return tree.end(i) - tree.from(i);
            default:
                return refuse(OTHER);
        }
    }

    public long means(int reading) {
        if (spent()) {
            return refuse(SPENT);
        }
        return noReading(reading) ? refuse(NOBODY) : listing.meaning(reading);
    }

    public int lets(int reading, int set) {
        if (spent()) {
            return refuse(SPENT);
        }
        if (noReading(reading) || noCase(set)) {
            return refuse(NOBODY);
        }
        return bit(listing.meaning(reading), set);
    }

    public int map(int set) {
        if (spent()) {
            return refuse(SPENT);
        }
        return noCase(set) ? refuse(NOBODY) : listing.lettingAt(set);
    }

    public long all(boolean let) {
        if (spent()) {
            return refuse(SPENT);
        }
        return let ? listing.letByAll() : listing.barredByAll();
    }

    public int same(int a, int b) {
        if (spent()) {
            return refuse(SPENT);
        }
        if (noReading(a) || noReading(b)) {
            return refuse(NOBODY);
        }
        return listing.meaning(a) == listing.meaning(b) ? 1 : 0;
    }

    public int unlike() {
        if (spent()) {
            return refuse(SPENT);
        }
        unlikeOnes.gather(listing);
        return unlikeOnes.size();
    }

    public int part(int a, int b) {
        if (spent()) {
            return refuse(SPENT);
        }
        if (noReading(a) || noReading(b)) {
            return refuse(NOBODY);
        }
        return leastCase(listing.meaning(a) ^ listing.meaning(b));
    }

    public int idle(int reading) {
        if (spent()) {
            return refuse(SPENT);
        }
        return noReading(reading) ? refuse(NOBODY) : listing.idlePlaces(reading);
    }

    public int needless() {
        return spent() ? refuse(SPENT) : listing.idleInAll();
    }

    public int meets(int reading, int rule) {
        if (spent()) {
            return refuse(SPENT);
        }
        if (noReading(reading) || noRule(rule)) {
            return refuse(NOBODY);
        }
        return listing.isMet(reading, rule) ? 1 : 0;
    }

    public int choose(int rule) {
        if (noRule(rule)) {
            return refuse(NOBODY);
        }
        if (order.has(rule)) {
            return refuse(STATE);
        }
        order.add(rule);
        return order.size();
    }

    public int unchoose() {
        int were = order.size();
        order.clear();
        return were;
    }

    public int leftOver(int i) {
        if (spent()) {
            return refuse(SPENT);
        }
        if (i < -1) {
            return refuse(NOBODY);
        }
        sieve.sift(listing, order, NO_RULE);
        if (i == -1) {
            return sieve.size();
        }
        return i < sieve.size() ? sieve.at(i) : NONE;
    }

    public int passedOver() {
        if (spent()) {
            return refuse(SPENT);
        }
        sieve.sift(listing, order, NO_RULE);
        return sieve.passed();
    }

    public int quarrel(int a, int b) {
        if (spent()) {
            return refuse(SPENT);
        }
        if (noRule(a) || noRule(b) || a == b) {
            return refuse(NOBODY);
        }
        return listing.areAtOdds(a, b) ? 1 : 0;
    }

    public int hangs() {
        if (spent()) {
            return refuse(SPENT);
        }
        sieve.sift(listing, order, NO_RULE);
        int hanging = 0;
        for (int rule = 0; rule < RULES; rule++) {
            if (order.has(rule)) {
                otherSieve.sift(listing, order, rule);
                if (!sieve.keepsAs(otherSieve)) {
                    hanging |= 1 << rule;
                }
            }
        }
        return hanging;
    }

    public int test() {
        return spent() ? refuse(SPENT) : listing.evenestCase();
    }

    public int fewest() {
        if (spent()) {
            return refuse(SPENT);
        }
        unlikeOnes.gather(listing);
        return unlikeOnes.fewestCases();
    }

    public int bracket(int from, int to) {
        if (from < 0 || to < from || to >= sentence.size()) {
            return refuse(NOBODY);
        }
        if (sentence.size() + 2 > MOST_WORDS) {
            return refuse(ROOM);
        }
        draft.bracketed(sentence, from, to);
        if (draft.mostOpen() > MOST_OPEN) {
            return refuse(ROOM);
        }
        if (draft.fault() != NO_FAULT) {
            return refuse(STATE);
        }
        takeSentence(draft);
        return sentence.size();
    }

    public int mend(int reading) {
        if (spent()) {
            return refuse(SPENT);
        }
        if (noReading(reading)) {
            return refuse(NOBODY);
        }
        tree.grow(sentence, ways, reading);
        mender.begin(tree);
        for (int other = 0; other < listing.size(); other++) {
            if (listing.meaning(other) != listing.meaning(reading)) {
                tree.grow(sentence, ways, other);
                mender.hold(tree);
            }
        }
        return mender.fewestNodes();
    }

    public int aim(int set, int weight) {
        if (noCase(set)) {
            return refuse(NOBODY);
        }
        if (weight < -MOST_WEIGHT) {
            return refuse(BELOW);
        }
        if (weight > MOST_WEIGHT || aims.size() >= MOST_AIMS) {
            return refuse(ROOM);
        }
        aims.add(set, weight);
        return aims.size();
    }

    public int serves(int reading) {
        if (spent()) {
            return SERVES_REFUSED - refuse(SPENT);
        }
        if (noReading(reading)) {
            return SERVES_REFUSED - refuse(NOBODY);
        }
        return aims.servedBy(listing.meaning(reading));
    }

    public int best() {
        if (spent()) {
            return refuse(SPENT);
        }
        int best = 0;
        for (int reading = 1; reading < listing.size(); reading++) {
            if (aims.servedBy(listing.meaning(reading)) > aims.servedBy(listing.meaning(best))) {
                best = reading;
            }
        }
        return best;
    }

    public int image() {
        taken.take(sentence, order, aims);
        return sentence.size();
    }

    public int on() {
        if (!taken.isThere()) {
            return refuse(STATE);
        }
        takeSentence(taken.words());
        order.become(taken.order());
        aims.become(taken.aims());
        return sentence.size();
    }

    public int count(int what) {
        switch (what) {
            case 0:
                return sentence.size();
            case 1:
                return order.size();
            case 2:
                return aims.size();
            case 3:
                return tape.size();
            case 4:
                return sentence.letters();
            default:
                return what >= 11 && what <= 16 ? look(refused, what - 10) : NONE;
        }
    }

    private int refuse(int number) {
        put(refused, -number, look(refused, -number) + 1);
        return number;
    }

    private void takeSentence(Words words) {
        sentence.become(words);
        ways.reckon(sentence);
        listing.forget();
    }

    /** Lists the readings when they are first asked for: where it answers false, they stand listed. */
    private boolean spent() {
        long many = readings();
        if (many > MOST_LISTED) {
            return true;
        }
        if (!listing.isMade()) {
            listing.make(sentence, ways, tree, (int) many);
        }
        return false;
    }

    private boolean noReading(int reading) {
        return reading < 0 || reading >= listing.size();
    }

    private static boolean noCase(int set) {
        return set < 0 || set >= CASES;
    }

    private static boolean noRule(int rule) {
        return rule < 0 || rule >= RULES;
    }

    private static int kindOf(int word) {
        switch (word) {
            case 'a':
            case 'b':
            case 'c':
            case 'd':
            case 'e':
                return LETTER;
            case '!':
                return NOT;
            case '(':
                return BRACKETS;
            case '&':
                return AND;
            case '|':
                return OR;
            case '>':
                return IF;
            case '-':
                return UNLESS;
            default:
                return NO_KIND;
        }
    }

    private static long casesOf(int letter) {
        return look(MARK_CASES, letter - 'a');
    }

    private static boolean isJoin(int kind) {
        return kind >= AND;
    }

    private static int bit(long meaning, int set) {
        return (int) (meaning >>> set & 1);
    }

    private static int leastCase(long cases) {
        for (int set = 0; set < CASES; set++) {
            if (bit(cases, set) == 1) {
                return set;
            }
        }
        return NONE;
    }

    // Rows are looked into and written through these four alone, so that every index is tested.

    private static int look(int[] row, int i) {
        return i >= 0 && i < row.length ? row[i] : 0;
    }

    private static long look(long[] row, int i) {
        return i >= 0 && i < row.length ? row[i] : 0;
    }

    private static void put(int[] row, int i, int value) {
        if (i >= 0 && i < row.length) {
            row[i] = value;
        }
    }

    private static void put(long[] row, int i, long value) {
        if (i >= 0 && i < row.length) {
            row[i] = value;
        }
    }

    /** A text: the tape, the sentence, one that may become it. */
    private static final class Words {
        private final int[] row = new int[MOST_WORDS];
        private int size;

        int size() {
            return size;
        }

        int at(int place) {
            return look(row, place);
        }

        void clear() {
            size = 0;
        }

        void add(int word) {
            if (size < MOST_WORDS) {
                put(row, size, word);
                size++;
            }
        }

        void become(Words other) {
            clear();
            for (int i = 0; i < other.size; i++) {
                add(other.at(i));
            }
        }

        void bracketed(Words other, int from, int to) {
            clear();
            for (int i = 0; i < other.size; i++) {
                if (i == from) {
                    add('(');
                }
                add(other.at(i));
                if (i == to) {
                    add(')');
                }
            }
        }

        int letters() {
            int letters = 0;
            for (int i = 0; i < size; i++) {
                if (kindOf(at(i)) == LETTER) {
                    letters++;
                }
            }
            return letters;
        }

        int mostOpen() {
            int open = 0;
            int most = 0;
            for (int i = 0; i < size; i++) {
                if (at(i) == '(') {
                    open++;
                } else if (at(i) == ')') {
                    open--;
                }
                most = Math.max(most, open);
            }
            return most;
        }

        /** The place of the ")" that closes the brackets in which a place stands; the size, if it is in none. */
        int closeAfter(int place) {
            int open = 0;
            for (int i = place; i < size; i++) {
                int word = look(row, i);
                if (word == '(') {
                    open++;
                } else if (word == ')') {
                    open--;
                }
                if (open < 0) {
                    return i;
                }
            }
            return size;
        }

        int fault() {
            boolean phraseDue = true;
            int open = 0;
            for (int i = 0; i < size; i++) {
                int word = at(i);
                if (phraseDue && word == '(' && open < MOST_OPEN) {
                    open++;
                } else if (phraseDue && kindOf(word) == LETTER) {
                    phraseDue = false;
                } else if (!phraseDue && word == ')' && open > 0) {
                    open--;
                } else if (!phraseDue && isJoin(kindOf(word))) {
                    phraseDue = true;
                } else if (!phraseDue || word != '!') {
                    return i;
                }
            }
            return phraseDue || open > 0 ? size : NO_FAULT;
        }
    }

    /** How many ways there are to make one phrase of each run of words. */
    private static final class Ways {
        private static final int EDGES = MOST_WORDS + 1;

        private final long[] numbers = new long[EDGES * EDGES];
        private final long[] frontNumbers = new long[EDGES * EDGES];

        long number(int from, int end) {
            return look(numbers, from * EDGES + end);
        }

        /** Of these only the ways with "!" or "(" at the front, and of a letter its one. */
        long frontNumber(int from, int end) {
            return look(frontNumbers, from * EDGES + end);
        }

        /** From the shorter runs to those that they are part of. */
        void reckon(Words words) {
            for (int from = words.size() - 1; from >= 0; from--) {
                int close = words.closeAfter(from + 1);
                for (int end = from + 1; end <= words.size(); end++) {
                    long front = fronted(kindOf(words.at(from)), from, end, close);
                    put(frontNumbers, from * EDGES + end, front);
                    put(numbers, from * EDGES + end, front + parted(words, from, end));
                }
            }
        }

        private long fronted(int kind, int from, int end, int close) {
            if (kind == LETTER) {
                return end == from + 1 ? 1 : 0;
            }
            if (kind == NOT) {
                return number(from + 1, end);
            }
            return kind == BRACKETS && close == end - 1 ? number(from + 1, close) : 0;
        }

        private long parted(Words words, int from, int end) {
            long sum = 0;
            for (int place = from + 1; place < end - 1; place++) {
                if (isJoin(kindOf(words.at(place)))) {
                    sum += number(from, place) * number(place + 1, end);
                }
            }
            return sum;
        }
    }

    /** One reading: its nodes, a phrase ahead of what is in it. */
    private static final class Tree {
        private final int[] kinds = new int[MOST_WORDS];
        private final int[] froms = new int[MOST_WORDS];
        private final int[] ends = new int[MOST_WORDS];
        private final int[] behinds = new int[MOST_WORDS];
        private int size;

        // Runs that are still to be read, the next one last.
        private final int[] waitingFroms = new int[MOST_WORDS];
        private final int[] waitingEnds = new int[MOST_WORDS];
        private final long[] waitingNumbers = new long[MOST_WORDS];
        private final int[] waitingJoins = new int[MOST_WORDS];
        private int waiting;

        int size() {
            return size;
        }

        int kind(int i) {
            return look(kinds, i);
        }

        int from(int i) {
            return look(froms, i);
        }

        int end(int i) {
            return look(ends, i);
        }

        /** The first node in a node; of one of the four what is ahead. */
        int inner(int i) {
            return i + 1;
        }

        /** Of one of the four the node of what is behind. */
        int behind(int i) {
            return look(behinds, i);
        }

        void grow(Words words, Ways ways, long number) {
            size = 0;
            waiting = 0;
            await(0, words.size(), number, NONE);
            for (int i = 0; i < MOST_WORDS && waiting > 0; i++) {
                waiting--;
                int from = look(waitingFroms, waiting);
                int end = look(waitingEnds, waiting);
                long left = look(waitingNumbers, waiting);
                long front = ways.frontNumber(from, end);
                put(behinds, look(waitingJoins, waiting), size);
                if (left < front) {
                    growFront(words, from, end, left);
                } else {
                    growJoin(words, ways, from, end, left - front);
                }
            }
        }

        private void await(int from, int end, long number, int join) {
            put(waitingFroms, waiting, from);
            put(waitingEnds, waiting, end);
            put(waitingNumbers, waiting, number);
            put(waitingJoins, waiting, join);
            waiting++;
        }

        private void growFront(Words words, int from, int end, long number) {
            int kind = kindOf(words.at(from));
            addNode(kind, from, end);
            if (kind == NOT) {
                await(from + 1, end, number, NONE);
            } else if (kind == BRACKETS) {
                await(from + 1, end - 1, number, NONE);
            }
        }

        private void growJoin(Words words, Ways ways, int from, int end, long number) {
            long left = number;
            for (int place = from + 1; place < end - 1; place++) {
                int kind = kindOf(words.at(place));
                if (!isJoin(kind)) {
                    continue;
                }
                long behind = ways.number(place + 1, end);
                long here = ways.number(from, place) * behind;
                if (left < here && behind > 0) {
                    await(place + 1, end, left % behind, size);
                    await(from, place, left / behind, NONE);
                    addNode(kind, from, end);
                    return;
                }
                left -= here;
            }
        }

        private void addNode(int kind, int from, int end) {
            put(kinds, size, kind);
            put(froms, size, from);
            put(ends, size, end);
            size++;
        }
    }

    /** What a tree means, which of its letters are idle, by which rules it is met. */
    private static final class Sense {
        private static final int ALL_FOUR_BUT_AND = 1 << OR | 1 << IF | 1 << UNLESS;

        private final long[] meanings = new long[MOST_WORDS];
        // The cases in which the whole hangs on the node.
        private final long[] weights = new long[MOST_WORDS];
        // Which of the four a node is or has beneath it without brackets between, as bits.
        private final int[] bares = new int[MOST_WORDS];
        private int idlePlaces;
        private int metRules;

        long meaning() {
            return look(meanings, 0);
        }

        int idlePlaces() {
            return idlePlaces;
        }

        int metRules() {
            return metRules;
        }

        void weigh(Tree tree, Words words) {
            int broken = 0;
            for (int i = tree.size() - 1; i >= 0; i--) {
                put(meanings, i, meaningOf(tree, words, i));
                put(bares, i, bareOf(tree, i));
                broken |= brokenAt(tree, words, i);
            }
            findIdle(tree);
            metRules = (1 << RULES) - 1 & ~(broken | brokenByWhole());
        }

        private long meaningOf(Tree tree, Words words, int i) {
            long ahead = look(meanings, tree.inner(i));
            long behind = look(meanings, tree.behind(i));
            switch (tree.kind(i)) {
                case LETTER:
                    return casesOf(words.at(tree.from(i)));
                case NOT:
                    return EVERY_CASE & ~ahead;
                case AND:
                    return ahead & behind;
                case OR:
                    return ahead | behind;
                case IF:
                    return EVERY_CASE & (~ahead | behind);
                case UNLESS:
                    return ahead & ~behind;
                default:
                    return ahead;
            }
        }

        private int bareOf(Tree tree, int i) {
            int kind = tree.kind(i);
            if (kind == LETTER || kind == BRACKETS) {
                return 0;
            }
            int ahead = look(bares, tree.inner(i));
            return kind == NOT ? ahead : ahead | look(bares, tree.behind(i)) | 1 << kind;
        }

        /** A letter is idle if there is no case in which the whole hangs on it. */
        private void findIdle(Tree tree) {
            idlePlaces = 0;
            put(weights, 0, EVERY_CASE);
            for (int i = 0; i < tree.size(); i++) {
                int kind = tree.kind(i);
                long weight = look(weights, i);
                if (isJoin(kind)) {
                    long ahead = look(meanings, tree.inner(i));
                    long behind = look(meanings, tree.behind(i));
                    put(weights, tree.inner(i), weight & (kind == AND ? behind : ~behind));
                    put(weights, tree.behind(i), weight & (kind == OR ? ~ahead : ahead));
                } else if (kind != LETTER) {
                    put(weights, tree.inner(i), weight);
                } else if (weight == 0) {
                    idlePlaces |= 1 << tree.from(i);
                }
            }
        }

        private int brokenByWhole() {
            int broken = 0;
            if (idlePlaces != 0) {
                broken |= 1 << NO_IDLE;
            }
            if (meaning() == 0 || meaning() == EVERY_CASE) {
                broken |= 1 << SOME;
            }
            return broken;
        }

        private int brokenAt(Tree tree, Words words, int i) {
            int kind = tree.kind(i);
            int ahead = look(bares, tree.inner(i));
            int behind = look(bares, tree.behind(i));
            int broken = 0;
            if (kind == NOT && ahead != 0) {
                broken |= 1 << NEAR;
            }
            if (kind == NOT && tree.end(i) != words.closeAfter(tree.from(i))) {
                broken |= 1 << FAR;
            }
            if (isJoin(kind) && behind != 0) {
                broken |= 1 << LEFT;
            }
            if (kind == AND && ((ahead | behind) & ALL_FOUR_BUT_AND) != 0) {
                broken |= 1 << AND_FIRST;
            }
            return broken;
        }
    }

    /** All readings, where they are few enough to be listed. */
    private static final class Listing {
        private final Sense sense = new Sense();
        private final long[] meanings = new long[MOST_LISTED];
        private final int[] idles = new int[MOST_LISTED];
        private final int[] mets = new int[MOST_LISTED];
        private int size;
        private boolean made;

        boolean isMade() {
            return made;
        }

        void forget() {
            made = false;
        }

        void make(Words words, Ways ways, Tree tree, int many) {
            size = many;
            for (int i = 0; i < size; i++) {
                tree.grow(words, ways, i);
                sense.weigh(tree, words);
                put(meanings, i, sense.meaning());
                put(idles, i, sense.idlePlaces());
                put(mets, i, sense.metRules());
            }
            made = true;
        }

        int size() {
            return size;
        }

        long meaning(int reading) {
            return look(meanings, reading);
        }

        int idlePlaces(int reading) {
            return look(idles, reading);
        }

        boolean isMet(int reading, int rule) {
            return bit(look(mets, reading), rule) == 1;
        }

        int lettingAt(int set) {
            int letting = 0;
            for (int i = 0; i < size; i++) {
                letting += bit(meaning(i), set);
            }
            return letting;
        }

        long letByAll() {
            long cases = EVERY_CASE;
            for (int i = 0; i < size; i++) {
                cases &= meaning(i);
            }
            return cases;
        }

        long barredByAll() {
            long cases = EVERY_CASE;
            for (int i = 0; i < size; i++) {
                cases &= ~meaning(i);
            }
            return cases;
        }

        int idleInAll() {
            int places = idlePlaces(0);
            for (int i = 1; i < size; i++) {
                places &= idlePlaces(i);
            }
            return places;
        }

        boolean areAtOdds(int a, int b) {
            boolean byA = false;
            boolean byB = false;
            for (int i = 0; i < size; i++) {
                if (isMet(i, a) && isMet(i, b)) {
                    return false;
                }
                byA = byA || isMet(i, a);
                byB = byB || isMet(i, b);
            }
            return byA && byB;
        }

        int evenestCase() {
            int evenest = 0;
            int least = size + 1;
            for (int set = 0; set < CASES; set++) {
                int difference = Math.abs(2 * lettingAt(set) - size);
                if (difference < least) {
                    least = difference;
                    evenest = set;
                }
            }
            return evenest;
        }
    }

    /** The meanings that there are, each once, and the cases that part them. */
    private static final class Unlike {
        // As many as three cases can part.
        private static final int MOST_PARTED = 8;

        private final long[] meanings = new long[MOST_LISTED];
        private int size;

        int size() {
            return size;
        }

        void gather(Listing listing) {
            size = 0;
            for (int i = 0; i < listing.size(); i++) {
                if (!has(listing.meaning(i))) {
                    put(meanings, size, listing.meaning(i));
                    size++;
                }
            }
        }

        private boolean has(long meaning) {
            for (int i = 0; i < size; i++) {
                if (look(meanings, i) == meaning) {
                    return true;
                }
            }
            return false;
        }

        int fewestCases() {
            if (size <= 1) {
                return 0;
            }
            if (size > MOST_PARTED) {
                return NONE;
            }
            int fewest = NONE;
            for (int a = 0; a < CASES; a++) {
                if (arePartedBy(a, a, a)) {
                    return 1;
                }
                for (int b = a + 1; b < CASES && fewest != 2; b++) {
                    if (arePartedBy(a, b, b)) {
                        fewest = 2;
                    } else if (fewest == NONE && isThirdFor(a, b)) {
                        fewest = 3;
                    }
                }
            }
            return fewest;
        }

        private boolean isThirdFor(int a, int b) {
            for (int c = b + 1; c < CASES; c++) {
                if (arePartedBy(a, b, c)) {
                    return true;
                }
            }
            return false;
        }

        private boolean arePartedBy(int a, int b, int c) {
            int seen = 0;
            for (int i = 0; i < size; i++) {
                long meaning = look(meanings, i);
                int answers = 1 << bit(meaning, a) + 2 * bit(meaning, b) + 4 * bit(meaning, c);
                if ((seen & answers) != 0) {
                    return false;
                }
                seen |= answers;
            }
            return true;
        }
    }

    /** The rules chosen, in their order. */
    private static final class Order {
        private final int[] rules = new int[RULES];
        private int size;

        int size() {
            return size;
        }

        int at(int i) {
            return look(rules, i);
        }

        void clear() {
            size = 0;
        }

        boolean has(int rule) {
            for (int i = 0; i < size; i++) {
                if (at(i) == rule) {
                    return true;
                }
            }
            return false;
        }

        void add(int rule) {
            if (size < RULES) {
                put(rules, size, rule);
                size++;
            }
        }

        void become(Order other) {
            clear();
            for (int i = 0; i < other.size; i++) {
                add(other.at(i));
            }
        }
    }

    /** The readings that the rules chosen leave over. */
    private static final class Sieve {
        private final int[] kept = new int[MOST_LISTED];
        private int size;
        private int passed;

        int size() {
            return size;
        }

        int at(int i) {
            return look(kept, i);
        }

        int passed() {
            return passed;
        }

        void sift(Listing listing, Order order, int without) {
            passed = 0;
            size = listing.size();
            for (int i = 0; i < size; i++) {
                put(kept, i, i);
            }
            for (int i = 0; i < order.size(); i++) {
                if (order.at(i) != without) {
                    keepMet(listing, order.at(i));
                }
            }
        }

        private void keepMet(Listing listing, int rule) {
            int met = 0;
            for (int i = 0; i < size; i++) {
                if (listing.isMet(at(i), rule)) {
                    put(kept, met, at(i));
                    met++;
                }
            }
            // Where none is met nothing was moved either, so all stay.
            if (met == 0) {
                passed++;
            } else {
                size = met;
            }
        }

        boolean keepsAs(Sieve other) {
            for (int i = 0; i < size; i++) {
                if (at(i) != other.at(i)) {
                    return false;
                }
            }
            return size == other.size;
        }
    }

    /** The nodes of one reading that bar the readings of another meaning, where they are put in brackets. */
    private static final class Mender {
        private static final int EDGES = MOST_WORDS + 1;

        // Of each run of words the bit of the node that it is in the reading to be mended.
        private final int[] nodeBits = new int[EDGES * EDGES];
        // Of each reading of another meaning the nodes that it has, too.
        private final int[] shared = new int[MOST_LISTED];
        private int size;
        private int every;

        void begin(Tree tree) {
            size = 0;
            every = 0;
            for (int i = 0; i < nodeBits.length; i++) {
                put(nodeBits, i, 0);
            }
            // Node 0 is the whole sentence.
            for (int i = 1; i < tree.size(); i++) {
                if (tree.kind(i) != LETTER && tree.kind(i) != BRACKETS) {
                    put(nodeBits, tree.from(i) * EDGES + tree.end(i), 1 << i);
                    every |= 1 << i;
                }
            }
        }

        void hold(Tree other) {
            int bits = 0;
            for (int i = 0; i < other.size(); i++) {
                bits |= look(nodeBits, other.from(i) * EDGES + other.end(i));
            }
            put(shared, size, bits);
            size++;
        }

        int fewestNodes() {
            if (size == 0) {
                return 0;
            }
            if ((every & ~sharedWith(0)) != 0) {
                return 1;
            }
            for (int i = 0; i < MOST_WORDS; i++) {
                int node = every & 1 << i;
                if (node != 0 && (every & ~sharedWith(node)) != 0) {
                    return 2;
                }
            }
            return NONE;
        }

        /** The nodes that stand in some reading of another meaning that has these, too. */
        private int sharedWith(int nodes) {
            int with = 0;
            for (int i = 0; i < size; i++) {
                if ((look(shared, i) & nodes) == nodes) {
                    with |= look(shared, i);
                }
            }
            return with;
        }
    }

    /** The aims, in the order in which they came. */
    private static final class Aims {
        private final int[] sets = new int[MOST_AIMS];
        private final int[] weights = new int[MOST_AIMS];
        private int size;

        int size() {
            return size;
        }

        void add(int set, int weight) {
            if (size < MOST_AIMS) {
                put(sets, size, set);
                put(weights, size, weight);
                size++;
            }
        }

        void become(Aims other) {
            size = 0;
            for (int i = 0; i < other.size; i++) {
                add(look(other.sets, i), look(other.weights, i));
            }
        }

        int servedBy(long meaning) {
            int sum = 0;
            for (int i = 0; i < size; i++) {
                sum += look(weights, i) * bit(meaning, look(sets, i));
            }
            return sum;
        }
    }

    /** What was taken of an object, to go on from. */
    private static final class Image {
        private final Words words = new Words();
        private final Order order = new Order();
        private final Aims aims = new Aims();
        private boolean there;

        boolean isThere() {
            return there;
        }

        Words words() {
            return words;
        }

        Order order() {
            return order;
        }

        Aims aims() {
            return aims;
        }

        void take(Words fromWords, Order fromOrder, Aims fromAims) {
            words.become(fromWords);
            order.become(fromOrder);
            aims.become(fromAims);
            there = true;
        }
    }
}
