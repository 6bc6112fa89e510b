import java.io.IOException;
import java.lang.reflect.Method;
import java.nio.file.Files;
import java.nio.file.Path;
import java.util.regex.Matcher;
import java.util.regex.Pattern;

/** The calls that README.md shows answer what it says of them. */
public final class ReadmeTest {
    private static final Due DUE = new Due("ReadmeTest");
    private static final Pattern CALL = Pattern.compile("(?m)^x\\.(\\w+)\\((.*)\\); +// (-?\\d+):");

    public static void main(String[] args) throws IOException, ReflectiveOperationException {
        MayBeRead x = new MayBeRead();
        Matcher calls = CALL.matcher(Files.readString(Path.of("README.md")));
        while (calls.find()) {
            long got = answer(x, calls.group(1), calls.group(2).isEmpty() ? new String[0] : calls.group(2).split(", "));
            DUE.is("README: " + calls.group(), got, Long.parseLong(calls.group(3)));
        }
        DUE.finish();
    }

    private static long answer(MayBeRead x, String name, String[] texts) throws ReflectiveOperationException {
        for (Method method : MayBeRead.class.getMethods()) {
            if (method.getDeclaringClass() == MayBeRead.class && method.getName().equals(name)) {
                return ((Number) method.invoke(x, arguments(method.getParameterTypes(), texts))).longValue();
            }
        }
        throw new IllegalStateException("no such method: " + name);
    }

    private static Object[] arguments(Class<?>[] types, String[] texts) {
        Object[] arguments = new Object[types.length];
        for (int i = 0; i < types.length; i++) {
            long number = Long.decode(texts[i].replace("L", ""));
            arguments[i] = types[i] == long.class ? (Object) number : (Object) (int) number;
        }
        return arguments;
    }
}
