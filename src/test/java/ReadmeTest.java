import java.lang.reflect.InvocationTargetException;
import java.lang.reflect.Method;
import java.nio.charset.StandardCharsets;
import java.nio.file.Files;
import java.nio.file.Path;
import java.util.regex.Matcher;
import java.util.regex.Pattern;

/** The calls that README.md shows answer what it says behind them, one after the other on one object. */
public final class ReadmeTest extends Games {

    private static final Path README = Path.of("README.md");
    private static final Pattern CALL = Pattern.compile(" {4}polo\\.(\\w+)\\(([\\d, ]*)\\); +// ([^:]+):.*");
    private static final Pattern TEXT = Pattern.compile("characters of `([^`]+)`[^`]+`read\\(\\)` carries out its (\\d+)");

    private final Check check = new Check("ReadmeTest");
    private final WhalePolo polo = new WhalePolo();

    public static void main(String[] args) throws Exception {
        new ReadmeTest().run();
    }

    private void run() throws Exception {
        int calls = 0;
        for (String line : Files.readAllLines(README, StandardCharsets.UTF_8)) {
            if (line.startsWith("    polo.")) {
                checkCall(line);
                calls++;
            }
        }
        check.same("README.md shows calls", true, calls > 0);
        check.due("the line that it tells", "....o....", () -> lineOf(polo));
        checkText(Files.readString(README, StandardCharsets.UTF_8).replaceAll("\\s+", " "));
        check.end();
    }

    private void checkCall(String line) {
        Matcher matcher = CALL.matcher(line);
        check.same("a call and its answer: " + line, true, matcher.matches());
        if (matcher.matches()) {
            check.same(line, matcher.group(3), answerOf(matcher.group(1), matcher.group(2)));
        }
    }

    private String answerOf(String name, String told) {
        String[] numbers = told.isEmpty() ? new String[0] : told.split(", ");
        Object[] arguments = new Object[numbers.length];
        for (int index = 0; index < numbers.length; index++) {
            arguments[index] = Integer.valueOf(numbers[index]);
        }
        for (Method method : WhalePolo.class.getMethods()) {
            if (method.getName().equals(name) && method.getParameterCount() == arguments.length) {
                return answerOf(method, arguments);
            }
        }
        return "no such method";
    }

    private String answerOf(Method method, Object[] arguments) {
        try {
            return String.valueOf(method.invoke(polo, arguments));
        } catch (InvocationTargetException e) {
            return "throws " + e.getCause().getClass().getSimpleName();
        } catch (IllegalAccessException e) {
            return "a method that is not public";
        }
    }

    private void checkText(String readme) {
        Matcher matcher = TEXT.matcher(readme);
        boolean isFound = matcher.find();
        check.same("README.md shows a text", true, isFound);
        if (isFound) {
            WhalePolo other = new WhalePolo();
            check.due("its commands", matcher.group(2), () -> readText(other, matcher.group(1)));
            check.due("the buoy then", 24, () -> other.account(5));
        }
    }
}
