import java.lang.reflect.Method;
import java.nio.file.Files;
import java.nio.file.Path;
import java.util.regex.Matcher;
import java.util.regex.Pattern;

/** The example of README.md: the last call of each line answers what the comment beside it says. */
public final class ReadmeTest {
    private static final Pattern CALL = Pattern.compile("x\\.(\\w+)\\(([-0-9, ]*)\\);");
    private static final Pattern DUE = Pattern.compile("// (-?\\d+|true|false): ");

    private static final Checks checks = new Checks();

    public static void main(String[] args) throws Exception {
        AffineAligner x = new AffineAligner();
        for (String line : Files.readAllLines(Path.of("README.md"))) {
            if (line.startsWith("x.")) {
                line(x, line);
            }
        }
        checks.end();
    }

    private static void line(AffineAligner x, String line) throws Exception {
        String answer = "no answer";
        Matcher call = CALL.matcher(line);
        while (call.find()) {
            answer = answer(x, call.group(1), call.group(2));
        }
        Matcher due = DUE.matcher(line);
        boolean said = due.find();
        checks.due(line + " says what is due", said, true);
        checks.due(line + " (" + answer + ")", said && answer.equals(due.group(1)), true);
    }

    private static String answer(AffineAligner x, String name, String numbers) throws Exception {
        String[] words = numbers.isEmpty() ? new String[0] : numbers.split(", ");
        for (Method method : AffineAligner.class.getMethods()) {
            if (method.getName().equals(name) && method.getParameterCount() == words.length) {
                Object[] arguments = new Object[words.length];
                for (int k = 0; k < words.length; k++) {
                    arguments[k] = Integer.valueOf(words[k]);
                }
                return String.valueOf(method.invoke(x, arguments));
            }
        }
        return "no such method";
    }
}
