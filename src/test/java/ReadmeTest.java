import java.io.IOException;
import java.lang.reflect.Method;
import java.nio.file.Files;
import java.nio.file.Path;
import java.util.regex.Matcher;
import java.util.regex.Pattern;

/** Each call of README.md's example answers what its comment begins with. */
public final class ReadmeTest {
    private static final Pattern CALL = Pattern.compile("hay\\.(\\w+)\\((.*)\\); *// (true|false|-?\\d+)\\b.*");

    private ReadmeTest() {
    }

    public static void main(String[] args) throws IOException, ReflectiveOperationException {
        String text = Files.readString(Path.of("README.md"));
        String example = text.substring(text.indexOf("```java\n") + 8);
        example = example.substring(0, example.indexOf("```"));
        OddHay hay = new OddHay();
        int calls = 0;
        int wrong = 0;
        for (String row : example.split("\n")) {
            if (!row.startsWith("hay.")) {
                continue;
            }
            Matcher call = CALL.matcher(row);
            String answer = call.matches() ? "" + ask(hay, call.group(1), call.group(2)) : "no call";
            calls++;
            if (!call.matches() || !answer.equals(call.group(3))) {
                wrong++;
                System.out.println("readme: '" + row + "' answered " + answer);
            }
        }
        System.out.println("readme: " + calls + " calls, " + wrong + " wrong");
        System.exit(wrong == 0 && calls > 0 ? 0 : 1);
    }

    private static Object ask(OddHay hay, String name, String list) throws ReflectiveOperationException {
        String[] words = list.isEmpty() ? new String[0] : list.split(", *");
        Object[] numbers = new Object[words.length];
        for (int i = 0; i < words.length; i++) {
            numbers[i] = (int) (long) Long.decode(words[i]);
        }
        for (Method method : OddHay.class.getMethods()) {
            if (method.getName().equals(name) && method.getParameterCount() == numbers.length) {
                return method.invoke(hay, numbers);
            }
        }
        return "no such method";
    }
}
