import java.lang.reflect.Method;
import java.lang.reflect.Modifier;
import java.nio.file.Files;
import java.nio.file.Path;
import java.util.Arrays;
import java.util.regex.Matcher;
import java.util.regex.Pattern;

/** README.md names every call with its parameters, and the answers of its example are those of the class. */
public final class ReadmeTest {
    private static final Pattern ROW = Pattern.compile("(?m)^\\| `(\\w+)\\(([^)]*)\\)` \\|");
    private static final Pattern EXAMPLE = Pattern.compile("(?s)```java\\n(.*?)```");
    private static final Pattern CALL = Pattern.compile("x\\.(\\w+)\\(([^)]*)\\);\\s*// (-?\\d+)(:.*)?");
    private static final Check check = new Check();

    public static void main(String[] args) throws Exception {
        String page = Files.readString(Path.of("README.md"));
        callsAreNamed(page);
        exampleAnswers(page);
        check.end();
    }

    private static int parametersIn(String list) {
        return list.isBlank() ? 0 : list.split(",").length;
    }

    private static void callsAreNamed(String page) {
        int rows = 0;
        Matcher row = ROW.matcher(page);
        while (row.find()) {
            Method call = publicMethod(row.group(1));
            check.isTrue("there is a call " + row.group(1), call != null);
            if (call != null) check.due("parameters of " + row.group(1), parametersIn(row.group(2)), call.getParameterCount());
            rows++;
        }
        check.due("calls named", rows, Arrays.stream(LadderMaker.class.getDeclaredMethods()).filter(m -> Modifier.isPublic(m.getModifiers())).count());
    }

    private static Method publicMethod(String name) {
        for (Method m : LadderMaker.class.getDeclaredMethods()) {
            if (Modifier.isPublic(m.getModifiers()) && m.getName().equals(name)) return m;
        }
        return null;
    }

    private static void exampleAnswers(String page) throws Exception {
        Matcher example = EXAMPLE.matcher(page);
        check.isTrue("there is an example", example.find());
        LadderMaker x = new LadderMaker();
        for (String line : example.group(1).split("\n")) {
            if (!line.startsWith("x.")) continue;
            Matcher call = CALL.matcher(line);
            boolean told = call.matches();
            check.isTrue("with its answer: " + line, told);
            if (told) check.due(line, answer(x, call.group(1), call.group(2)), Long.parseLong(call.group(3)));
        }
    }

    private static long answer(LadderMaker x, String name, String list) throws Exception {
        Object[] numbers = new Object[parametersIn(list)];
        for (int i = 0; i < numbers.length; i++) numbers[i] = Integer.valueOf(list.split(",")[i].trim());
        return ((Number) publicMethod(name).invoke(x, numbers)).longValue();
    }
}
