import java.io.IOException;
import java.lang.reflect.Method;
import java.nio.file.Files;
import java.nio.file.Path;
import java.util.regex.Matcher;
import java.util.regex.Pattern;

/** The calls that README.md shows answer what it says, and README.md names each call of the face. */
public final class ReadmeTest {
    private static final Pattern CALL = Pattern.compile("x\\.(\\w+)\\((.*?)\\); +// (-?\\d+)\\b.*");

    public static void main(String[] args) throws IOException, ReflectiveOperationException {
        Due due = new Due("ReadmeTest");
        String text = Files.readString(Path.of("README.md"));
        shownCalls(due, text);
        for (Method method : BentShares.class.getDeclaredMethods()) {
            if (java.lang.reflect.Modifier.isPublic(method.getModifiers())) {
                due.isTrue(method.getName() + " is told", text.contains("`" + method.getName() + "`"));
            }
        }
        due.isTrue("how to run the tests", text.contains(".ci/run"));
        due.end();
    }

    private static void shownCalls(Due due, String text) throws ReflectiveOperationException {
        BentShares x = new BentShares();
        int calls = 0;
        for (String line : text.split("\n")) {
            Matcher call = CALL.matcher(line);
            if (call.matches()) {
                long told = Long.parseLong(call.group(3));
                due.is(line, answer(x, call.group(1), call.group(2).split(", *")), told);
                calls++;
            } else {
                due.isTrue(line + " tells its answer", !line.startsWith("x."));
            }
        }
        due.isTrue("some calls are shown", calls >= 5);
    }

    private static long answer(BentShares x, String name, String[] numbers) throws ReflectiveOperationException {
        for (Method method : BentShares.class.getMethods()) {
            if (method.getName().equals(name) && method.getParameterCount() == numbers.length) {
                Object[] args = new Object[numbers.length];
                for (int i = 0; i < args.length; i++) {
                    long number = Long.decode(numbers[i].replace("L", ""));
                    args[i] = number;
                    if (method.getParameterTypes()[i] == int.class) {
                        args[i] = (int) number;
                    }
                }
                return ((Number) method.invoke(x, args)).longValue();
            }
        }
        throw new NoSuchMethodException(name);
    }
}
