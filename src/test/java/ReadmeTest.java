import java.io.IOException;
import java.lang.reflect.Method;
import java.nio.file.Files;
import java.nio.file.Path;
import java.util.regex.Matcher;
import java.util.regex.Pattern;

/** Each call of the example in README.md answers what stands behind it. */
public final class ReadmeTest {
    private static final Check CHECK = new Check();
    private static final Pattern CALL = Pattern.compile("(?m)^x\\.(\\w+)\\(([^)]*)\\);\\s*// (-?\\w+):");
    private static final Pattern LINE = Pattern.compile("(?m)^x\\.");

    public static void main(String[] args) throws IOException, ReflectiveOperationException {
        String readme = Files.readString(Path.of(args[1]));
        ChoiceGame x = new ChoiceGame();
        Matcher calls = CALL.matcher(readme);
        int seen = 0;
        while (calls.find()) {
            seen++;
            String call = calls.group(1) + "(" + calls.group(2) + ")";
            CHECK.due(call, answer(x, calls.group(1), calls.group(2)), calls.group(3));
        }
        CHECK.due("an example stands there", seen > 0, true);
        CHECK.due("calls with an answer behind them", seen, LINE.matcher(readme).results().count());
        CHECK.end();
    }

    private static String answer(ChoiceGame x, String name, String list) throws ReflectiveOperationException {
        String[] texts = list.isEmpty() ? new String[0] : list.split(",\\s*");
        Class<?>[] types = new Class<?>[texts.length];
        Object[] values = new Object[texts.length];
        for (int i = 0; i < texts.length; i++) {
            types[i] = int.class;
            values[i] = Long.decode(texts[i]).intValue();
        }
        Method method = ChoiceGame.class.getMethod(name, types);
        return String.valueOf(method.invoke(x, values));
    }
}
