import java.io.IOException;
import java.lang.reflect.Method;
import java.nio.file.Files;
import java.nio.file.Path;
import java.util.regex.Matcher;
import java.util.regex.Pattern;

/** The calls that README.md shows are answered as it says. */
public final class ReadmeTest {
    private static final Checks CHECKS = new Checks();
    private static final Pattern TEXT = Pattern.compile("^text\\(x, \"(.*)\"\\);$");
    private static final Pattern CALL = Pattern.compile("^x\\.(\\w+)\\(([^)]*)\\);(?:\\s+// (\\w+).*)?$");

    public static void main(String[] args) throws IOException {
        ShyBoats x = new ShyBoats();
        String readme = Files.readString(Path.of("README.md")).replaceAll("\"\\s*\n\\s*\\+ \"", "");
        for (String line : readme.split("\n")) {
            Matcher text = TEXT.matcher(line);
            Matcher call = CALL.matcher(line);
            if (text.matches()) {
                Checks.text(x, text.group(1));
            } else if (call.matches()) {
                String answer = call(x, call.group(1), call.group(2));
                String due = call.group(3) == null ? answer : call.group(3).replace("NONE", "-1");
                CHECKS.due(line + " is " + answer, answer.equals(due), true);
            }
        }
        CHECKS.finish();
    }

    private static String call(ShyBoats x, String name, String list) {
        String[] words = list.isEmpty() ? new String[0] : list.split(", ");
        Object[] numbers = new Object[words.length];
        for (int i = 0; i < words.length; i++) {
            numbers[i] = Integer.decode(words[i]);
        }
        for (Method method : ShyBoats.class.getMethods()) {
            if (method.getName().equals(name) && method.getParameterCount() == words.length) {
                try {
                    return String.valueOf(method.invoke(x, numbers));
                } catch (ReflectiveOperationException e) {
                    return e.toString();
                }
            }
        }
        return "no such call";
    }
}
