import java.io.IOException;
import java.lang.reflect.Method;
import java.lang.reflect.Modifier;
import java.nio.file.Files;
import java.nio.file.Path;
import java.util.Set;
import java.util.TreeSet;
import java.util.regex.Matcher;
import java.util.regex.Pattern;

/** The example in README.md: each of its calls answers what stands behind it. */
public final class ReadmeTest {
    private static final String FIRST = "BitemporalTable table = new BitemporalTable();";
    private static final Pattern CALL = Pattern.compile("table\\.(\\w+)\\(([-\\d, ]*)\\); +// (-?\\d+|[A-Z]+): .+");

    private static int wrong = 0;

    private static void fault(String words) {
        wrong++;
        System.out.println(words);
    }

    private static int[] numbers(String text) {
        if (text.isBlank()) {
            return new int[0];
        }
        String[] parts = text.split(", ");
        int[] numbers = new int[parts.length];
        for (int i = 0; i < parts.length; i++) {
            numbers[i] = Integer.parseInt(parts[i]);
        }
        return numbers;
    }

    private static int due(String text) throws ReflectiveOperationException {
        boolean named = Character.isLetter(text.charAt(0));
        return named ? BitemporalTable.class.getField(text).getInt(null) : Integer.parseInt(text);
    }

    private static int answer(BitemporalTable table, String name, int[] numbers) throws ReflectiveOperationException {
        Class<?>[] types = new Class<?>[numbers.length];
        Object[] arguments = new Object[numbers.length];
        for (int i = 0; i < numbers.length; i++) {
            types[i] = int.class;
            arguments[i] = numbers[i];
        }
        return (int) BitemporalTable.class.getMethod(name, types).invoke(table, arguments);
    }

    /** The lines of the example between its first line and the end of its block. */
    private static String[] example() throws IOException {
        String text = Files.readString(Path.of("README.md"));
        int first = text.indexOf("```java\n" + FIRST + "\n");
        if (first < 0) {
            return new String[0];
        }
        int start = text.indexOf(FIRST, first) + FIRST.length() + 1;
        return text.substring(start, text.indexOf("```", start)).split("\n");
    }

    private static Set<String> methods() {
        Set<String> names = new TreeSet<>();
        for (Method m : BitemporalTable.class.getDeclaredMethods()) {
            if (Modifier.isPublic(m.getModifiers())) {
                names.add(m.getName());
            }
        }
        return names;
    }

    public static void main(String[] args) throws IOException, ReflectiveOperationException {
        BitemporalTable table = new BitemporalTable();
        Set<String> unused = methods();
        for (String line : example()) {
            Matcher call = CALL.matcher(line);
            if (!call.matches()) {
                fault("README.md: not a call with its answer: " + line);
                continue;
            }
            unused.remove(call.group(1));
            int got = answer(table, call.group(1), numbers(call.group(2)));
            if (got != due(call.group(3))) {
                fault("README.md: " + line + " -- answered " + got);
            }
        }
        for (String name : unused) {
            fault("README.md: the example does not show " + name);
        }
        System.out.println(wrong == 0 ? "the example is as due" : wrong + " faults in the example");
        if (wrong != 0) {
            System.exit(1);
        }
    }
}
