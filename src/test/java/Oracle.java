import java.math.BigInteger;
import java.util.ArrayList;
import java.util.HashMap;
import java.util.HashSet;
import java.util.List;
import java.util.Map;
import java.util.Set;

/** The document once more, in the slowest and plainest way: trees, lists, one case after the other. */
final class Oracle {
    private static final String FOUR = "&|>-";

    /** A phrase of a reading. */
    private static final class Phrase {
        final int kind;
        final int from;
        final int end;
        final Phrase first;
        final Phrase second;

        Phrase(int kind, int from, int end, Phrase first, Phrase second) {
            this.kind = kind;
            this.from = from;
            this.end = end;
            this.first = first;
            this.second = second;
        }

        boolean isFour() {
            return kind >= 3;
        }
    }

    private String tape = "";
    private String sentence = "a";
    private List<Integer> order = new ArrayList<>();
    private List<int[]> aims = new ArrayList<>();
    private String savedSentence;
    private List<Integer> savedOrder;
    private List<int[]> savedAims;
    private final int[] refused = new int[7];
    private List<Phrase> listed;
    private List<Long> meanings;
    private final Map<String, BigInteger> numbers = new HashMap<>();

    Oracle() {
        settle();
    }

    String sentence() {
        return sentence;
    }

    private int refuse(int number) {
        refused[-number]++;
        return number;
    }

    // The grammar, over texts.

    private static boolean isLetter(String text) {
        return text.length() == 1 && "abcde".contains(text);
    }

    private static boolean balanced(String text) {
        int open = 0;
        for (char c : text.toCharArray()) {
            open += c == '(' ? 1 : c == ')' ? -1 : 0;
            if (open < 0) {
                return false;
            }
        }
        return open == 0;
    }

    private BigInteger number(String text) {
        BigInteger known = numbers.get(text);
        if (known != null) {
            return known;
        }
        BigInteger sum = BigInteger.ZERO;
        if (isLetter(text)) {
            sum = BigInteger.ONE;
        } else if (text.length() > 1) {
            if (text.startsWith("!")) {
                sum = sum.add(number(text.substring(1)));
            }
            if (text.startsWith("(") && text.endsWith(")") && balanced(text.substring(1, text.length() - 1))) {
                sum = sum.add(number(text.substring(1, text.length() - 1)));
            }
            for (int i = 1; i < text.length() - 1; i++) {
                if (FOUR.indexOf(text.charAt(i)) >= 0) {
                    BigInteger ahead = number(text.substring(0, i));
                    if (ahead.signum() > 0) {
                        sum = sum.add(ahead.multiply(number(text.substring(i + 1))));
                    }
                }
            }
        }
        numbers.put(text, sum);
        return sum;
    }

    private static int mostOpen(String text) {
        int open = 0;
        int most = 0;
        for (char c : text.toCharArray()) {
            open += c == '(' ? 1 : c == ')' ? -1 : 0;
            most = Math.max(most, open);
        }
        return most;
    }

    private boolean isSentence(String text) {
        return mostOpen(text) <= 4 && number(text).signum() > 0;
    }

    /** Whether some sentence begins so: if one does, one does that goes on with a letter or none, and ")". */
    private boolean canGoOn(String text) {
        for (String close : new String[] {"", ")", "))", ")))", "))))"}) {
            if (isSentence(text + close) || isSentence(text + "a" + close)) {
                return true;
            }
        }
        return false;
    }

    private int fault(String text) {
        for (int i = 0; i < text.length(); i++) {
            if (!canGoOn(text.substring(0, i + 1))) {
                return i;
            }
        }
        return isSentence(text) ? -1 : text.length();
    }

    private List<Phrase> list(int from, int end) {
        List<Phrase> all = new ArrayList<>();
        String text = sentence.substring(from, end);
        if (number(text).signum() == 0) {
            return all;
        }
        if (isLetter(text)) {
            all.add(new Phrase(0, from, end, null, null));
            return all;
        }
        if (text.startsWith("!")) {
            for (Phrase rest : list(from + 1, end)) {
                all.add(new Phrase(1, from, end, rest, null));
            }
        }
        if (text.startsWith("(") && text.endsWith(")") && balanced(text.substring(1, text.length() - 1))) {
            for (Phrase inside : list(from + 1, end - 1)) {
                all.add(new Phrase(2, from, end, inside, null));
            }
        }
        for (int i = from + 1; i < end - 1; i++) {
            int four = FOUR.indexOf(sentence.charAt(i));
            if (four >= 0) {
                List<Phrase> behinds = list(i + 1, end);
                for (Phrase ahead : behinds.isEmpty() ? behinds : list(from, i)) {
                    for (Phrase behind : behinds) {
                        all.add(new Phrase(3 + four, from, end, ahead, behind));
                    }
                }
            }
        }
        return all;
    }

    private void settle() {
        numbers.clear();
        listed = null;
        meanings = new ArrayList<>();
        if (number(sentence).compareTo(BigInteger.valueOf(200)) <= 0) {
            listed = list(0, sentence.length());
            for (Phrase reading : listed) {
                meanings.add(meaning(reading, -1, false));
            }
        }
    }

    private boolean noReading(int reading) {
        return reading < 0 || reading >= listed.size();
    }

    private static boolean noCase(int set) {
        return set < 0 || set > 31;
    }

    private static boolean noRule(int rule) {
        return rule < 0 || rule > 5;
    }

    // What a reading means.

    private boolean isSo(Phrase p, int set, int place, boolean always) {
        switch (p.kind) {
            case 0:
                return p.from == place ? always : (set >> sentence.charAt(p.from) - 'a' & 1) == 1;
            case 1:
                return !isSo(p.first, set, place, always);
            case 2:
                return isSo(p.first, set, place, always);
            default:
                boolean ahead = isSo(p.first, set, place, always);
                boolean behind = isSo(p.second, set, place, always);
                return p.kind == 3 ? ahead && behind : p.kind == 4 ? ahead || behind
                        : p.kind == 5 ? !ahead || behind : ahead && !behind;
        }
    }

    private long meaning(Phrase p, int place, boolean always) {
        long meaning = 0;
        for (int set = 0; set < 32; set++) {
            if (isSo(p, set, place, always)) {
                meaning |= 1L << set;
            }
        }
        return meaning;
    }

    private boolean letsCase(int reading, int set) {
        return (meanings.get(reading) >> set & 1) == 1;
    }

    private int idlePlaces(Phrase p) {
        int places = 0;
        for (int i = 0; i < sentence.length(); i++) {
            if (isLetter(sentence.substring(i, i + 1)) && meaning(p, i, true) == meaning(p, i, false)) {
                places |= 1 << i;
            }
        }
        return places;
    }

    private static void nodesOf(Phrase p, List<Phrase> all) {
        all.add(p);
        if (p.first != null) {
            nodesOf(p.first, all);
        }
        if (p.second != null) {
            nodesOf(p.second, all);
        }
    }

    private static List<Phrase> nodesOf(Phrase p) {
        List<Phrase> all = new ArrayList<>();
        nodesOf(p, all);
        return all;
    }

    // The rules.

    /** A phrase and those beneath it without brackets between. */
    private static void bare(Phrase p, List<Phrase> all) {
        all.add(p);
        if (p.kind != 2 && p.first != null) {
            bare(p.first, all);
        }
        if (p.kind != 2 && p.second != null) {
            bare(p.second, all);
        }
    }

    private static boolean hasBare(Phrase p, String kinds) {
        List<Phrase> all = new ArrayList<>();
        bare(p, all);
        for (Phrase one : all) {
            if (kinds.indexOf('0' + one.kind) >= 0) {
                return true;
            }
        }
        return false;
    }

    private static boolean reachesEnd(Phrase p, int limit) {
        if (p == null) {
            return true;
        }
        int inner = p.kind == 2 ? p.end - 1 : limit;
        return (p.kind != 1 || p.end == limit) && reachesEnd(p.first, inner) && reachesEnd(p.second, inner);
    }

    private boolean isMet(int reading, int rule) {
        Phrase whole = listed.get(reading);
        if (rule == 1) {
            return reachesEnd(whole, sentence.length());
        }
        if (rule == 4) {
            return idlePlaces(whole) == 0;
        }
        if (rule == 5) {
            return meanings.get(reading) != 0 && meanings.get(reading) != 0xFFFFFFFFL;
        }
        for (Phrase p : nodesOf(whole)) {
            if (rule == 0 && p.kind == 1 && hasBare(p.first, "3456")
                    || rule == 2 && p.isFour() && hasBare(p.second, "3456")
                    || rule == 3 && p.kind == 3 && (hasBare(p.first, "456") || hasBare(p.second, "456"))) {
                return false;
            }
        }
        return true;
    }

    /** The readings left over, and behind them how many rules were passed over. */
    private List<Integer> sift(int without) {
        List<Integer> kept = new ArrayList<>();
        for (int i = 0; i < listed.size(); i++) {
            kept.add(i);
        }
        int passed = 0;
        for (int rule : order) {
            if (rule == without) {
                continue;
            }
            List<Integer> met = new ArrayList<>();
            for (int i : kept) {
                if (isMet(i, rule)) {
                    met.add(i);
                }
            }
            if (met.isEmpty()) {
                passed++;
            } else {
                kept = met;
            }
        }
        kept.add(passed);
        return kept;
    }

    // The face.

    int feed(int n, long bytes) {
        if (n < 1) {
            return refuse(-4);
        }
        if (n > 8 || tape.length() + n > 21) {
            return refuse(-6);
        }
        for (int i = 0; i < n; i++) {
            tape += (char) (bytes >> 8 * i & 255);
        }
        return tape.length();
    }

    int read() {
        String text = tape;
        tape = "";
        numbers.clear();
        int fault = fault(text);
        if (fault >= 0) {
            return -20 - fault;
        }
        sentence = text;
        settle();
        return text.length();
    }

    int wordAt(int i) {
        return i < 0 || i >= sentence.length() ? -9 : sentence.charAt(i);
    }

    long readings() {
        return number(sentence).longValueExact();
    }

    int nodes(int reading) {
        if (listed == null) {
            return refuse(-5);
        }
        return noReading(reading) ? refuse(-1) : nodesOf(listed.get(reading)).size();
    }

    int node(int reading, int i, int what) {
        if (listed == null) {
            return refuse(-5);
        }
        if (noReading(reading) || i < 0 || i >= nodesOf(listed.get(reading)).size()) {
            return refuse(-1);
        }
        Phrase p = nodesOf(listed.get(reading)).get(i);
        return what == 0 ? p.kind : what == 1 ? p.from : what == 2 ? p.end - p.from : refuse(-2);
    }

    long means(int reading) {
        if (listed == null) {
            return refuse(-5);
        }
        return noReading(reading) ? refuse(-1) : meanings.get(reading);
    }

    int lets(int reading, int set) {
        if (listed == null) {
            return refuse(-5);
        }
        return noReading(reading) || noCase(set) ? refuse(-1) : letsCase(reading, set) ? 1 : 0;
    }

    private int letting(int set) {
        int many = 0;
        for (int i = 0; i < listed.size(); i++) {
            many += letsCase(i, set) ? 1 : 0;
        }
        return many;
    }

    int map(int set) {
        if (listed == null) {
            return refuse(-5);
        }
        return noCase(set) ? refuse(-1) : letting(set);
    }

    long all(boolean let) {
        if (listed == null) {
            return refuse(-5);
        }
        long cases = 0;
        for (int set = 0; set < 32; set++) {
            if (letting(set) == (let ? listed.size() : 0)) {
                cases |= 1L << set;
            }
        }
        return cases;
    }

    int same(int a, int b) {
        if (listed == null) {
            return refuse(-5);
        }
        return noReading(a) || noReading(b) ? refuse(-1) : meanings.get(a).equals(meanings.get(b)) ? 1 : 0;
    }

    int unlike() {
        return listed == null ? refuse(-5) : new HashSet<>(meanings).size();
    }

    int part(int a, int b) {
        if (listed == null) {
            return refuse(-5);
        }
        if (noReading(a) || noReading(b)) {
            return refuse(-1);
        }
        for (int set = 0; set < 32; set++) {
            if (letsCase(a, set) != letsCase(b, set)) {
                return set;
            }
        }
        return -9;
    }

    int idle(int reading) {
        if (listed == null) {
            return refuse(-5);
        }
        return noReading(reading) ? refuse(-1) : idlePlaces(listed.get(reading));
    }

    int needless() {
        if (listed == null) {
            return refuse(-5);
        }
        int places = -1;
        for (Phrase reading : listed) {
            places &= idlePlaces(reading);
        }
        return places;
    }

    int meets(int reading, int rule) {
        if (listed == null) {
            return refuse(-5);
        }
        return noReading(reading) || noRule(rule) ? refuse(-1) : isMet(reading, rule) ? 1 : 0;
    }

    int choose(int rule) {
        if (noRule(rule)) {
            return refuse(-1);
        }
        if (order.contains(rule)) {
            return refuse(-3);
        }
        order.add(rule);
        return order.size();
    }

    int unchoose() {
        int were = order.size();
        order.clear();
        return were;
    }

    int leftOver(int i) {
        if (listed == null) {
            return refuse(-5);
        }
        if (i < -1) {
            return refuse(-1);
        }
        List<Integer> kept = sift(-1);
        int many = kept.size() - 1;
        return i == -1 ? many : i < many ? kept.get(i) : -9;
    }

    int passedOver() {
        if (listed == null) {
            return refuse(-5);
        }
        List<Integer> kept = sift(-1);
        return kept.get(kept.size() - 1);
    }

    int quarrel(int a, int b) {
        if (listed == null) {
            return refuse(-5);
        }
        if (noRule(a) || noRule(b) || a == b) {
            return refuse(-1);
        }
        int byA = 0;
        int byB = 0;
        int byBoth = 0;
        for (int i = 0; i < listed.size(); i++) {
            byA += isMet(i, a) ? 1 : 0;
            byB += isMet(i, b) ? 1 : 0;
            byBoth += isMet(i, a) && isMet(i, b) ? 1 : 0;
        }
        return byA > 0 && byB > 0 && byBoth == 0 ? 1 : 0;
    }

    int hangs() {
        if (listed == null) {
            return refuse(-5);
        }
        List<Integer> with = sift(-1);
        int bits = 0;
        for (int rule : order) {
            List<Integer> without = sift(rule);
            if (!with.subList(0, with.size() - 1).equals(without.subList(0, without.size() - 1))) {
                bits |= 1 << rule;
            }
        }
        return bits;
    }

    int test() {
        if (listed == null) {
            return refuse(-5);
        }
        int least = 0;
        for (int set = 1; set < 32; set++) {
            if (unevenness(set) < unevenness(least)) {
                least = set;
            }
        }
        return least;
    }

    private int unevenness(int set) {
        int bars = listed.size() - letting(set);
        return Math.abs(letting(set) - bars);
    }

    int fewest() {
        if (listed == null) {
            return refuse(-5);
        }
        Set<Long> unlike = new HashSet<>(meanings);
        for (int many = 0; many <= 3; many++) {
            for (int a = 0; a < 32; a++) {
                for (int b = 0; b < 32; b++) {
                    for (int c = 0; c < 32; c++) {
                        long mask = (many > 0 ? 1L << a : 0) | (many > 1 ? 1L << b : 0) | (many > 2 ? 1L << c : 0);
                        if (Long.bitCount(mask) == many && partsAll(unlike, mask)) {
                            return many;
                        }
                    }
                }
            }
        }
        return -9;
    }

    private static boolean partsAll(Set<Long> unlike, long mask) {
        Set<Long> seen = new HashSet<>();
        for (long meaning : unlike) {
            if (!seen.add(meaning & mask)) {
                return false;
            }
        }
        return true;
    }

    int bracket(int from, int to) {
        int size = sentence.length();
        if (from < 0 || from >= size || to < 0 || to >= size || to < from) {
            return refuse(-1);
        }
        String then = sentence.substring(0, from) + "(" + sentence.substring(from, to + 1) + ")"
                + sentence.substring(to + 1);
        if (then.length() > 21 || mostOpen(then) > 4) {
            return refuse(-6);
        }
        numbers.clear();
        if (!isSentence(then)) {
            return refuse(-3);
        }
        sentence = then;
        settle();
        return then.length();
    }

    int mend(int reading) {
        if (listed == null) {
            return refuse(-5);
        }
        if (noReading(reading)) {
            return refuse(-1);
        }
        List<Phrase> nodes = new ArrayList<>();
        for (Phrase p : nodesOf(listed.get(reading))) {
            boolean whole = p.from == 0 && p.end == sentence.length();
            if (p.kind != 0 && p.kind != 2 && !whole) {
                nodes.add(p);
            }
        }
        if (mends(reading)) {
            return 0;
        }
        for (Phrase p : nodes) {
            if (mends(reading, p)) {
                return 1;
            }
        }
        for (Phrase p : nodes) {
            for (Phrase q : nodes) {
                if (p != q && mends(reading, p, q)) {
                    return 2;
                }
            }
        }
        return -9;
    }

    private boolean mends(int reading, Phrase... brackets) {
        for (int i = 0; i < listed.size(); i++) {
            boolean hasAll = true;
            for (Phrase p : brackets) {
                hasAll &= hasRun(listed.get(i), p.from, p.end);
            }
            if (hasAll && !meanings.get(i).equals(meanings.get(reading))) {
                return false;
            }
        }
        return true;
    }

    private static boolean hasRun(Phrase p, int from, int end) {
        return p != null && (p.from == from && p.end == end || hasRun(p.first, from, end) || hasRun(p.second, from, end));
    }

    int aim(int set, int weight) {
        if (noCase(set)) {
            return refuse(-1);
        }
        if (weight < -99) {
            return refuse(-4);
        }
        if (weight > 99 || aims.size() == 8) {
            return refuse(-6);
        }
        aims.add(new int[] {set, weight});
        return aims.size();
    }

    private int served(int reading) {
        int sum = 0;
        for (int[] aim : aims) {
            sum += letsCase(reading, aim[0]) ? aim[1] : 0;
        }
        return sum;
    }

    int serves(int reading) {
        if (listed == null) {
            return 1000000000 - refuse(-5);
        }
        return noReading(reading) ? 1000000000 - refuse(-1) : served(reading);
    }

    int best() {
        if (listed == null) {
            return refuse(-5);
        }
        int best = 0;
        for (int i = 0; i < listed.size(); i++) {
            best = served(i) > served(best) ? i : best;
        }
        return best;
    }

    int image() {
        savedSentence = sentence;
        savedOrder = new ArrayList<>(order);
        savedAims = new ArrayList<>(aims);
        return sentence.length();
    }

    int on() {
        if (savedSentence == null) {
            return refuse(-3);
        }
        sentence = savedSentence;
        order = new ArrayList<>(savedOrder);
        aims = new ArrayList<>(savedAims);
        settle();
        return sentence.length();
    }

    int count(int what) {
        switch (what) {
            case 0:
                return sentence.length();
            case 1:
                return order.size();
            case 2:
                return aims.size();
            case 3:
                return tape.length();
            case 4:
                return sentence.replaceAll("[^a-e]", "").length();
            default:
                return what >= 11 && what <= 16 ? refused[what - 10] : -9;
        }
    }
}
