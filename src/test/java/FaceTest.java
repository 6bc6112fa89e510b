import java.io.IOException;
import java.lang.reflect.Constructor;
import java.lang.reflect.Field;
import java.lang.reflect.Method;
import java.lang.reflect.Modifier;
import java.nio.file.Files;
import java.nio.file.Path;
import java.util.Set;
import java.util.TreeSet;
import java.util.regex.Matcher;
import java.util.regex.Pattern;

/** The face of the document, the form of ../shared/LANGUAGE.md as far as it is easily seen, and that nothing throws. */
public final class FaceTest {
    private static final Due DUE = new Due("FaceTest");
    private static final Path SOURCE = Path.of("src/main/java/MayBeRead.java");
    private static final String[] FACE = {
        "int feed(int,long)", "int read()", "int wordAt(int)", "long readings()", "int nodes(int)",
        "int node(int,int,int)", "long means(int)", "int lets(int,int)", "int map(int)", "long all(boolean)",
        "int same(int,int)", "int unlike()", "int part(int,int)", "int idle(int)", "int needless()",
        "int meets(int,int)", "int choose(int)", "int unchoose()", "int leftOver(int)", "int passedOver()",
        "int quarrel(int,int)", "int hangs()", "int test()", "int fewest()", "int bracket(int,int)", "int mend(int)",
        "int aim(int,int)", "int serves(int)", "int best()", "int image()", "int on()", "int count(int)"};

    public static void main(String[] args) throws IOException, ReflectiveOperationException {
        face();
        noOtherMembers();
        noPrivateMethodNamedAsAPublicOne();
        form();
        noMasksOfBooleans();
        rowsThroughLookAndPutAlone();
        nothingThrows();
        DUE.finish();
    }

    private static String signature(Method method) {
        StringBuilder text = new StringBuilder(method.getReturnType() + " " + method.getName() + "(");
        for (Class<?> type : method.getParameterTypes()) {
            text.append(text.toString().endsWith("(") ? "" : ",").append(type);
        }
        return text + ")";
    }

    private static void face() {
        Set<String> found = new TreeSet<>();
        for (Method method : MayBeRead.class.getDeclaredMethods()) {
            if (Modifier.isPublic(method.getModifiers())) {
                found.add(signature(method));
            }
        }
        DUE.that("the public methods are " + found, found.equals(new TreeSet<>(Set.of(FACE))));
        DUE.that("public and final", Modifier.isFinal(MayBeRead.class.getModifiers())
                && Modifier.isPublic(MayBeRead.class.getModifiers()));
        Constructor<?>[] constructors = MayBeRead.class.getDeclaredConstructors();
        DUE.that("one public constructor", constructors.length == 1 && constructors[0].getParameterCount() == 0
                && Modifier.isPublic(constructors[0].getModifiers()));
    }

    private static void noOtherMembers() {
        for (Method method : MayBeRead.class.getDeclaredMethods()) {
            int modifiers = method.getModifiers();
            DUE.that(method + " is public or private", Modifier.isPublic(modifiers) || Modifier.isPrivate(modifiers));
        }
        for (Field field : MayBeRead.class.getDeclaredFields()) {
            DUE.that(field + " is private", Modifier.isPrivate(field.getModifiers()));
        }
        for (Class<?> inside : MayBeRead.class.getDeclaredClasses()) {
            DUE.that(inside + " is static and private", Modifier.isStatic(inside.getModifiers())
                    && Modifier.isPrivate(inside.getModifiers()));
            DUE.that(inside + " has some twenty fields at most", inside.getDeclaredFields().length <= 20);
        }
        DUE.that("some twelve classes", MayBeRead.class.getDeclaredClasses().length <= 11);
    }

    private static void noPrivateMethodNamedAsAPublicOne() {
        Set<String> names = new TreeSet<>();
        for (String method : FACE) {
            names.add(method.replaceAll("^\\w+ |\\(.*", ""));
        }
        for (Method method : MayBeRead.class.getDeclaredMethods()) {
            DUE.that(method + " by its own name", Modifier.isPublic(method.getModifiers()) || !names.contains(method.getName()));
        }
        for (Class<?> inside : MayBeRead.class.getDeclaredClasses()) {
            for (Method method : inside.getDeclaredMethods()) {
                DUE.that(method + " by its own name", !names.contains(method.getName()));
                DUE.that(method + " takes seven at most", method.getParameterCount() <= 7);
            }
        }
    }

    /** The source without its comments. */
    private static String code() throws IOException {
        return Files.readString(SOURCE).replaceAll("(?s)/\\*.*?\\*/", "").replaceAll("//.*", "");
    }

    private static void form() throws IOException {
        String code = code();
        Matcher barred = Pattern.compile("\\b(throw|throws|try|catch|synchronized|assert|import|package|while|protected|"
                + "volatile|System|Object|Random|Thread|hashCode|equals|toString|\\w+Exact)\\b|->|::|\\bpublic \\w*\\s*static").matcher(code);
        while (barred.find()) {
            DUE.that("not in the source: " + barred.group(), false);
        }
        Matcher statics = Pattern.compile("static (?!final)(\\w+(\\[])?) \\w+( =|;)").matcher(code);
        while (statics.find()) {
            DUE.that("a static field is final: " + statics.group(), false);
        }
        Matcher methods = Pattern.compile("(?m)^( +)[\\w\\[\\] ]+\\([^;]*?\\) \\{\\n((?:.*\\n)*?)\\1}").matcher(code);
        int seen = 0;
        while (methods.find()) {
            seen++;
            DUE.that("at most sixty lines: " + methods.group(), methods.group().lines().count() <= 60);
        }
        DUE.that("the methods are seen", seen > 80);
    }

    /** Rule 10 has masks of int and long alone; of booleans it has && and ||. */
    private static void noMasksOfBooleans() throws IOException {
        String code = code();
        Matcher booleans = Pattern.compile("\\bboolean (\\w+)\\b(?!\\()").matcher(code);
        int seen = 0;
        while (booleans.find()) {
            seen++;
            Matcher masked = Pattern.compile("\\b" + booleans.group(1) + " ([|&^]=?) ").matcher(code);
            while (masked.find()) {
                DUE.that("no mask of a boolean: " + masked.group(), false);
            }
        }
        DUE.that("the booleans are seen", seen > 5);
    }

    private static void rowsThroughLookAndPutAlone() throws IOException {
        Matcher accesses = Pattern.compile("\\w+\\[\\w[^\\]]*]").matcher(code().replaceAll("new \\w+\\[[^\\]]*]", ""));
        int seen = 0;
        while (accesses.find()) {
            seen++;
            DUE.that("looked into by look and put alone: " + accesses.group(), accesses.group().equals("row[i]"));
        }
        DUE.is("places where a row is looked into", seen, 4);
    }

    private static final int[] EDGES = {Integer.MIN_VALUE, -1000, -100, -99, -21, -9, -2, -1, 0, 1, 2, 5, 6, 7, 8, 9, 20,
        21, 22, 31, 32, 99, 100, 199, 200, 201, 1000, Integer.MAX_VALUE};

    private static void nothingThrows() throws ReflectiveOperationException {
        for (String sentence : new String[] {"a", "!!!!a&!!a&!!a&a", "!!a&!a&!!a&(!!a&a)", "a|b|c|d|e|a|b|c|d|e|a",
            "!!!!!!!!!!!!!!!!!!!!a", "((((a)&(b))))", "!a&!b|!c>!d"}) {
            for (Method method : MayBeRead.class.getDeclaredMethods()) {
                if (Modifier.isPublic(method.getModifiers())) {
                    callAtEdges(Due.of(sentence), method, new Object[method.getParameterCount()], 0);
                }
            }
        }
        callsBeyondTheLast();
    }

    private static void callAtEdges(MayBeRead x, Method method, Object[] arguments, int filled)
            throws ReflectiveOperationException {
        if (filled == arguments.length) {
            method.invoke(x, arguments);
            return;
        }
        Class<?> type = method.getParameterTypes()[filled];
        for (int edge : EDGES) {
            arguments[filled] = type == boolean.class ? (Object) (edge > 0) : type == long.class ? (Object) (long) edge : edge;
            callAtEdges(x, method, arguments, filled + 1);
        }
    }

    private static void callsBeyondTheLast() {
        MayBeRead x = Due.of("!a&b|c");
        for (int i = 0; i < 20000; i++) {
            x.feed(i % 10, i);
            x.choose(i % 7);
            x.aim(i % 33, i % 100);
            x.bracket(i % 5, i % 11);
            x.hangs();
            x.mend(i % 9);
            x.on();
        }
        DUE.that("the object answers on", x.count(0) > 0);
    }
}
