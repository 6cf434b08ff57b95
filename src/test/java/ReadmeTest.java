import java.io.IOException;
import java.lang.reflect.Method;
import java.nio.file.Files;
import java.nio.file.Path;
import java.util.regex.Matcher;
import java.util.regex.Pattern;

/** The calls that README.md shows answer as it tells behind them. */
final class ReadmeTest {
    private static final Pattern CALL = Pattern.compile("^x\\.(\\w+)\\((.*)\\); +// ([-\\w]+):.*$");

    static void run(Due due) throws IOException {
        DarkLamps x = new DarkLamps();
        int calls = 0;
        for (String line : Files.readAllLines(Path.of("README.md"))) {
            Matcher call = CALL.matcher(line);
            if (call.matches()) {
                calls++;
                String got = answer(x, call.group(1), call.group(2).isEmpty() ? new String[0] : call.group(2).split(", "));
                due.that("README.md: " + line + " answered " + got, got.equals(call.group(3)));
            } else {
                due.same("README.md: a call without its answer: " + line, line.startsWith("x."), false);
            }
        }
        due.that("README.md shows calls", calls >= 15);
    }

    private static String answer(DarkLamps x, String name, String[] told) {
        for (Method method : DarkLamps.class.getMethods()) {
            if (method.getName().equals(name) && method.getParameterCount() == told.length) {
                Object[] arguments = new Object[told.length];
                for (int i = 0; i < told.length; i++) {
                    boolean isTruth = method.getParameterTypes()[i] == boolean.class;
                    arguments[i] = isTruth ? (Object) Boolean.valueOf(told[i]) : (Object) Integer.decode(told[i]);
                }
                try {
                    return String.valueOf(method.invoke(x, arguments));
                } catch (ReflectiveOperationException wrong) {
                    return wrong.toString();
                }
            }
        }
        return "no such call";
    }
}
