import java.lang.reflect.Method;
import java.lang.reflect.Modifier;
import java.nio.file.Files;
import java.nio.file.Path;
import java.util.regex.Matcher;
import java.util.regex.Pattern;

/** README.md's calls are made one after the other, and must answer what stands behind them; it names every call. */
public final class ReadmeTest {
    private static final Pattern MADE = Pattern.compile("LotteryOfLosses x = new LotteryOfLosses\\(\\);");
    private static final Pattern FED = Pattern.compile("for \\(char c : \"([^\"]*)\"\\.toCharArray\\(\\)\\) x\\.feed\\(c\\);");
    private static final Pattern CALL = Pattern.compile("x\\.(\\w+)\\(([^)]*)\\);\\s*// (-?\\d+)(:.*)?");
    private static LotteryOfLosses x;

    private ReadmeTest() {
    }

    public static void main(String[] args) throws Exception {
        String readme = Files.readString(Path.of("README.md"));
        Matcher block = Pattern.compile("(?s)```java\n(.*?)```").matcher(readme);
        while (block.find()) {
            for (String line : block.group(1).split("\n")) {
                follow(line);
            }
        }
        for (Method m : LotteryOfLosses.class.getDeclaredMethods()) {
            if (Modifier.isPublic(m.getModifiers())) {
                Due.is("README.md names " + m.getName(), readme.contains("`" + m.getName() + "`") ? 1 : 0, 1);
            }
        }
        Due.end();
    }

    private static void follow(String line) throws Exception {
        Matcher fed = FED.matcher(line);
        Matcher call = CALL.matcher(line);
        if (MADE.matcher(line).matches()) {
            x = new LotteryOfLosses();
        } else if (fed.matches()) {
            for (char c : fed.group(1).toCharArray()) {
                x.feed(c);
            }
        } else {
            Due.is("a line of README.md that can be followed: " + line, call.matches() ? 1 : 0, 1);
            Due.is(line, answer(call.group(1), call.group(2)), Long.parseLong(call.group(3)));
        }
    }

    private static long answer(String name, String args) throws Exception {
        String[] numbers = args.isEmpty() ? new String[0] : args.split(", ");
        for (Method m : LotteryOfLosses.class.getMethods()) {
            if (m.getName().equals(name) && m.getParameterCount() == numbers.length) {
                Object[] values = new Object[numbers.length];
                for (int i = 0; i < values.length; i++) {
                    int v = numbers[i].startsWith("0b") ? Integer.parseInt(numbers[i].substring(2), 2) : Integer.parseInt(numbers[i]);
                    values[i] = m.getParameterTypes()[i] == long.class ? (Object) (long) v : (Object) v;
                }
                return ((Number) m.invoke(x, values)).longValue();
            }
        }
        throw new NoSuchMethodException(name + "(" + args + ")");
    }
}
