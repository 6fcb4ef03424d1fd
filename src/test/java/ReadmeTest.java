import java.io.IOException;
import java.lang.reflect.Method;
import java.nio.file.Files;
import java.nio.file.Path;
import java.util.regex.Matcher;
import java.util.regex.Pattern;

/** README.md's example: each call answers the number that stands behind it. The file is named by told.readme. */
public final class ReadmeTest {
    private static final Pattern CALL = Pattern.compile("knots\\.(\\w+)\\(([-\\d, ]*)\\);\\s*// (-?\\d+): .*");
    private static final Pattern WRITTEN = Pattern.compile("for \\(char letter : \"([^\"]*)\"\\.toCharArray\\(\\)\\) \\{");
    private static final int CALLS = 13;

    private ReadmeTest() {
    }

    public static void main(String[] args) throws IOException, ReflectiveOperationException {
        String named = System.getProperty("told.readme");
        Path readme = Path.of(named == null ? "README.md" : named);
        Checks checks = new Checks();
        ToldInKnots knots = new ToldInKnots();
        int calls = 0;
        for (String line : Files.readAllLines(readme)) {
            Matcher written = WRITTEN.matcher(line);
            Matcher call = CALL.matcher(line);
            if (written.matches()) {
                Texts.write(knots, written.group(1));
            } else if (call.matches()) {
                calls++;
                checks.due(line, answer(knots, call.group(1), call.group(2)), Integer.parseInt(call.group(3)));
            }
        }
        checks.due("calls of the example", calls, CALLS);
        checks.end("ReadmeTest");
    }

    private static int answer(ToldInKnots knots, String name, String told) throws ReflectiveOperationException {
        String[] numbers = told.isEmpty() ? new String[0] : told.split(", ");
        Object[] given = new Object[numbers.length];
        for (int i = 0; i < given.length; i++) {
            given[i] = Integer.parseInt(numbers[i]);
        }
        for (Method method : ToldInKnots.class.getMethods()) {
            if (method.getName().equals(name) && method.getParameterCount() == given.length) {
                return (Integer) method.invoke(knots, given);
            }
        }
        throw new NoSuchMethodException(name);
    }
}
