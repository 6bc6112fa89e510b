import java.lang.reflect.Method;
import java.util.Arrays;
import java.util.HashMap;
import java.util.Map;
import java.util.TreeMap;

/** Long runs of calls, each answer held against the oracle's: all promises, in all kinds of states. */
public final class OracleTest {
    private static final int CALLS = 512;
    private static final int[] ODD = {Integer.MIN_VALUE, Integer.MAX_VALUE, -1, -2, 200, 1 << 16, -100};

    private final Due due = new Due("OracleTest");
    private final Map<String, Method> asked = faceOf(MayBeRead.class);
    private final Map<String, Method> known = faceOf(Oracle.class);
    private final Map<String, Integer> seen = new TreeMap<>();
    private MayBeRead x;
    private Oracle oracle;
    private String run;
    private int calls;
    private long state;

    public static void main(String[] args) throws ReflectiveOperationException {
        new OracleTest().runAll(args.length > 0 ? Integer.parseInt(args[0]) : 400);
    }

    private void runAll(int runs) throws ReflectiveOperationException {
        for (int i = 0; i < runs && due.wrong() == 0; i++) {
            state = 977L * i + 12345;
            run = "run " + i;
            runOne();
        }
        for (String rare : new String[] {"fewest 0", "fewest 1", "fewest 2", "fewest 3", "fewest -9", "mend 0", "mend 1",
            "mend 2", "mend -9", "quarrel 1", "bracket -1", "bracket -3", "bracket -6", "on -3", "passedOver 2",
            "part -9", "choose -3", "aim -6", "aim -4", "feed -6"}) {
            due.that("some call answers " + rare, seen.containsKey(rare));
        }
        due.finish();
    }

    private static Map<String, Method> faceOf(Class<?> face) {
        Map<String, Method> methods = new HashMap<>();
        for (Method method : face.getDeclaredMethods()) {
            if (!method.isSynthetic() && !java.lang.reflect.Modifier.isPrivate(method.getModifiers())) {
                methods.put(method.getName(), method);
            }
        }
        return methods;
    }

    /** From 0 up to below the bound; always the same ones, so that a run that fails can be run again. */
    private int some(int bound) {
        state = state * 6364136223846793005L + 1442695040888963407L;
        return (int) ((state >>> 33) % bound);
    }

    private void ask(String name, Object... arguments) throws ReflectiveOperationException {
        String call = run + ", call " + calls++ + ", " + oracle.sentence() + ": " + name + Arrays.toString(arguments);
        long want = ((Number) known.get(name).invoke(oracle, arguments)).longValue();
        long got = ((Number) asked.get(name).invoke(x, arguments)).longValue();
        due.is(call, got, want);
        seen.merge(name + " " + got, 1, Integer::sum);
    }

    private void runOne() throws ReflectiveOperationException {
        x = new MayBeRead();
        oracle = new Oracle();
        calls = 0;
        int most = 4 + some(18);
        // A new sentence takes several calls.
        while (calls < CALLS - 30) {
            if (some(9) == 0) {
                String text = some(4) == 0 ? spoilt(sentence(most)) : sentence(most);
                feedAll(text);
                ask("read");
            } else {
                askOne();
            }
        }
        for (int what = -1; what < 18; what++) {
            ask("count", what);
        }
    }

    private void feedAll(String text) throws ReflectiveOperationException {
        for (int from = 0; from < text.length(); ) {
            int n = Math.min(1 + some(8), text.length() - from);
            long unused = n < 8 ? (long) some(1 << 30) << 8 * n : 0;
            ask("feed", n, Due.bytes(text.substring(from, from + n)) | unused);
            from += n;
        }
    }

    private String sentence(int most) {
        StringBuilder text = new StringBuilder();
        int open = 0;
        boolean phraseDue = true;
        for (int i = 0; i < most - 1 - open; i++) {
            int kind = some(9);
            if (phraseDue && kind == 0 && open < 4) {
                text.append('(');
                open++;
            } else if (phraseDue && kind < 3) {
                text.append('!');
            } else if (!phraseDue && open > 0 && kind < 3) {
                text.append(')');
                open--;
            } else {
                text.append(phraseDue ? "abcde".charAt(some(5)) : "&|>-".charAt(some(4)));
                phraseDue = !phraseDue;
            }
        }
        return text + (phraseDue ? "a" : "") + "))))".substring(0, open);
    }

    private String spoilt(String text) {
        int place = some(text.length());
        switch (some(4)) {
            case 0:
                return text.substring(0, place);
            case 1:
                return text.substring(0, place) + (char) some(256) + text.substring(place + 1);
            case 2:
                return text.substring(0, place) + "!&()a|>-".charAt(some(8)) + text.substring(place + 1);
            default:
                return text.substring(0, place) + text.substring(place + 1);
        }
    }

    /** Mostly below the bound, now and then at or beyond its edges. */
    private int near(int bound) {
        int kind = some(12);
        if (kind == 0) {
            return ODD[some(ODD.length)];
        }
        return kind == 1 ? some(bound + 3) - 1 : some(bound);
    }

    private int reading() {
        return near((int) Math.min(205, oracle.readings()));
    }

    private void askOne() throws ReflectiveOperationException {
        int which = some(40);
        if (which < 18) {
            askOfReadings(which);
        } else {
            askOfRest(which);
        }
    }

    private void askOfReadings(int which) throws ReflectiveOperationException {
        switch (which) {
            case 0: ask("wordAt", near(21)); break;
            case 1: ask("readings"); break;
            case 2: ask("nodes", reading()); break;
            case 3: case 4: ask("node", reading(), near(9), near(3)); break;
            case 5: ask("means", reading()); break;
            case 6: ask("lets", reading(), near(32)); break;
            case 7: ask("map", near(32)); break;
            case 8: ask("all", some(2) == 0); break;
            case 9: ask("same", reading(), reading()); break;
            case 10: ask("unlike"); break;
            case 11: ask("part", reading(), reading()); break;
            case 12: case 13: ask("idle", reading()); break;
            case 14: ask("needless"); break;
            case 15: ask("serves", reading()); break;
            default: ask("meets", reading(), near(6)); break;
        }
    }

    private void askOfRest(int which) throws ReflectiveOperationException {
        switch (which) {
            case 18: case 19: case 20: ask("choose", near(6)); break;
            case 21: ask(some(3) == 0 ? "unchoose" : "passedOver"); break;
            case 22: case 23: ask("leftOver", some(3) == 0 ? -1 : near(9)); break;
            case 24: ask("passedOver"); break;
            case 25: ask("quarrel", near(6), near(6)); break;
            case 26: case 27: ask("hangs"); break;
            case 28: ask("test"); break;
            case 29: ask("fewest"); break;
            case 30: case 31: int from = near(8); ask("bracket", from, from + some(6)); break;
            case 32: case 33: ask("mend", reading()); break;
            case 34: ask("aim", near(32), near(220) - 110); break;
            case 35: ask("best"); break;
            case 36: ask("image"); break;
            case 37: ask("on"); break;
            case 38: ask("feed", near(9), (long) some(1 << 30)); break;
            default: ask("count", near(18)); break;
        }
    }
}
