import java.io.IOException;
import java.lang.reflect.Method;
import java.nio.charset.StandardCharsets;
import java.nio.file.Files;
import java.nio.file.Path;
import java.util.regex.Matcher;
import java.util.regex.Pattern;

/** README.md: each of its calls, one behind the other on one object, answers what stands beside it. */
public final class ReadmeTest {
    private static final Pattern CALL = Pattern.compile("^field\\.(\\w+)\\((.*)\\);(?:\\s*//\\s*(-?\\d+)(?:[: ].*)?)?$");
    private static final int CALLS = 40;

    private static int calls = 0;
    private static int wrong = 0;

    public static void main(String[] args) throws IOException, ReflectiveOperationException {
        TurnField field = new TurnField();
        for (String line : Files.readString(Path.of("README.md"), StandardCharsets.UTF_8).split("\n")) {
            if (line.startsWith("field.")) {
                check(field, line);
            }
        }
        if (calls < CALLS) {
            blame("only " + calls + " calls are told");
        }
        System.out.println("README: " + calls + " calls, " + wrong + " answers are not as told");
        if (wrong != 0) {
            System.exit(1);
        }
    }

    private static void blame(String what) {
        wrong++;
        System.out.println(what);
    }

    private static void check(TurnField field, String line) throws ReflectiveOperationException {
        Matcher matcher = CALL.matcher(line);
        if (!matcher.matches() || matcher.group(3) == null) {
            blame("no call with its answer: " + line);
            return;
        }
        calls++;
        long got = call(field, matcher.group(1), matcher.group(2));
        if (got != Long.parseLong(matcher.group(3))) {
            blame(line + " answered " + got);
        }
    }

    private static long call(TurnField field, String name, String told) throws ReflectiveOperationException {
        for (Method method : TurnField.class.getMethods()) {
            if (method.getName().equals(name)) {
                return ((Number) method.invoke(field, arguments(method.getParameterTypes(), told))).longValue();
            }
        }
        throw new NoSuchMethodException(name);
    }

    private static Object[] arguments(Class<?>[] types, String told) {
        Object[] all = new Object[types.length];
        String[] words = told.split(",");
        for (int i = 0; i < all.length; i++) {
            long number = Long.decode(words[i].trim().replace("L", ""));
            all[i] = types[i] == int.class ? (Object) (int) number : (Object) number;
        }
        return all;
    }
}
