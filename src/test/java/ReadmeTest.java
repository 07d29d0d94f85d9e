import java.io.IOException;
import java.lang.reflect.Field;
import java.lang.reflect.Method;
import java.lang.reflect.Modifier;
import java.nio.file.Files;
import java.nio.file.Path;
import java.util.List;
import java.util.regex.Matcher;
import java.util.regex.Pattern;

/** README.md tells the truth: the answers in its example, its constants, and no call left out. */
public final class ReadmeTest {
    private static final Path README = Path.of("README.md");
    private static final Pattern MAKING = Pattern.compile("new MultiwordSwap\\((\\d+), (\\d+), (\\d+)\\);.*");
    private static final Pattern CALL = Pattern.compile("x\\.(\\w+)\\(([^)]*)\\); +// ([-\\w]+).*");
    private static final Pattern CONSTANT = Pattern.compile("\\| (\\d+) +\\| ([A-Z_]+) +(?=\\|)");

    public static void main(String[] args) throws IOException, ReflectiveOperationException {
        List<String> lines = Files.readAllLines(README);
        example(lines);
        constants(String.join("\n", lines));
        everyCallIsNamed(String.join("\n", lines));
        Check.end();
    }

    private static void example(List<String> lines) throws ReflectiveOperationException {
        MultiwordSwap x = null;
        int calls = 0;
        for (String line : lines) {
            Matcher making = MAKING.matcher(line);
            if (making.find()) {
                x = new MultiwordSwap(number(making, 1), number(making, 2), number(making, 3));
            }
            Matcher call = CALL.matcher(line);
            if (call.matches()) {
                Check.due(line, answer(x, call.group(1), call.group(2)), told(call.group(3)));
                calls++;
            } else {
                Check.due("a call of the example that can't be read: " + line, line.startsWith("x."), false);
            }
        }
        Check.due("the example has calls", calls > 0, true);
    }

    private static int number(Matcher matcher, int group) {
        return Integer.parseInt(matcher.group(group));
    }

    private static int answer(MultiwordSwap x, String name, String arguments) throws ReflectiveOperationException {
        String[] texts = arguments.split(", ");
        Object[] given = new Object[texts.length];
        Class<?>[] types = new Class<?>[texts.length];
        for (int i = 0; i < texts.length; i++) {
            given[i] = Integer.valueOf(texts[i]);
            types[i] = int.class;
        }
        Object answer = MultiwordSwap.class.getMethod(name, types).invoke(x, given);
        return answer instanceof Boolean ? ((Boolean) answer ? 1 : 0) : (Integer) answer;
    }

    private static int told(String word) throws ReflectiveOperationException {
        if (word.equals("true") || word.equals("false")) {
            return word.equals("true") ? 1 : 0;
        }
        boolean isName = Character.isLetter(word.charAt(0));
        return isName ? MultiwordSwap.class.getField(word).getInt(null) : Integer.parseInt(word);
    }

    private static void constants(String text) throws ReflectiveOperationException {
        Matcher row = CONSTANT.matcher(text);
        int told = 0;
        while (row.find()) {
            Check.due(row.group(2), MultiwordSwap.class.getField(row.group(2)).getInt(null), number(row, 1));
            told++;
        }
        int due = 0;
        for (Field f : MultiwordSwap.class.getFields()) {
            due += Modifier.isStatic(f.getModifiers()) ? 1 : 0;
        }
        Check.due("constants told", told, due);
    }

    private static void everyCallIsNamed(String text) {
        for (Method m : MultiwordSwap.class.getDeclaredMethods()) {
            if (Modifier.isPublic(m.getModifiers())) {
                Check.due("README.md tells of " + m.getName(), text.contains("`" + m.getName() + "("), true);
            }
        }
    }
}
