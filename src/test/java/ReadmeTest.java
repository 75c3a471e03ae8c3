import java.io.IOException;
import java.lang.reflect.Method;
import java.lang.reflect.Modifier;
import java.nio.file.Files;
import java.nio.file.Path;
import java.util.List;
import java.util.TreeSet;
import java.util.regex.Matcher;
import java.util.regex.Pattern;
import java.util.stream.Collectors;
import java.util.stream.Stream;

/** What README.md says is so: each call that it shows answers what stands behind it; each test that it names is there. */
public final class ReadmeTest {
    private static final Due DUE = new Due();
    private static final String MADE = "PoliteHall hall = new PoliteHall();";
    private static final Pattern CALL = Pattern.compile("hall\\.(\\w+)\\((.*?)\\); +// (-?\\d+)(:.*)?");

    public static void main(String[] args) throws IOException, ReflectiveOperationException {
        List<String> lines = Files.readAllLines(Path.of("README.md"));
        TreeSet<String> shown = examples(lines);
        eachCallIsShown(shown);
        errors(String.join("\n", lines));
        testsAreNamed(String.join("\n", lines));
        DUE.end();
    }

    private static TreeSet<String> examples(List<String> lines) throws ReflectiveOperationException {
        TreeSet<String> shown = new TreeSet<>();
        PoliteHall hall = null;
        boolean inside = false;
        for (String line : lines) {
            if (line.startsWith("```")) {
                inside = line.equals("```java");
                hall = null;
            } else if (inside && line.equals(MADE)) {
                hall = new PoliteHall();
            } else if (inside) {
                Matcher m = CALL.matcher(line);
                DUE.holds("a call of a hall, with its answer: " + line, hall != null && m.matches());
                shown.add(m.group(1));
                DUE.is(line, answer(hall, m.group(1), m.group(2)), Long.parseLong(m.group(3)));
            }
        }
        return shown;
    }

    private static long answer(PoliteHall hall, String name, String arguments) throws ReflectiveOperationException {
        for (Method m : PoliteHall.class.getDeclaredMethods()) {
            if (Modifier.isPublic(m.getModifiers()) && m.getName().equals(name)) {
                String[] words = arguments.isEmpty() ? new String[0] : arguments.split(", ");
                Object[] values = new Object[words.length];
                for (int i = 0; i < words.length; i++) {
                    values[i] = value(words[i], m.getParameterTypes()[i]);
                }
                return ((Number) m.invoke(hall, values)).longValue();
            }
        }
        throw new NoSuchMethodException(name);
    }

    private static Object value(String word, Class<?> type) {
        if (type == boolean.class) {
            return word.equals("true");
        }
        if (type == long.class) {
            return Long.decode(word.replace("L", ""));
        }
        return Integer.valueOf(word);
    }

    private static void eachCallIsShown(TreeSet<String> shown) {
        for (Method m : PoliteHall.class.getDeclaredMethods()) {
            if (Modifier.isPublic(m.getModifiers())) {
                DUE.holds("README.md shows " + m.getName(), shown.contains(m.getName()));
            }
        }
    }

    private static void errors(String page) {
        String[] names = {"BEYOND", "NONE", "STATE", "FULL", "KIND", "PARTED"};
        for (int k = 1; k <= names.length; k++) {
            String row = "| " + (-1000000 - k) + " | " + names[k - 1] + " |";
            DUE.holds("README.md has the row " + row, page.contains(row));
        }
    }

    private static void testsAreNamed(String page) throws IOException {
        TreeSet<String> there;
        try (Stream<Path> files = Files.list(Path.of("src/test/java"))) {
            there = files.map(f -> f.getFileName().toString().replace(".java", "")).collect(Collectors.toCollection(TreeSet::new));
        }
        for (String name : there) {
            DUE.holds("README.md names " + name, Pattern.compile("\\b" + name + "\\b").matcher(page).find());
        }
        Matcher named = Pattern.compile("\\b\\w+Test\\b").matcher(page);
        while (named.find()) {
            DUE.holds(named.group() + " is there", there.contains(named.group()));
        }
    }
}
