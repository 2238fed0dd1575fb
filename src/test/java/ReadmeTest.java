import java.lang.reflect.Method;
import java.lang.reflect.Modifier;
import java.nio.file.Files;
import java.nio.file.Path;
import java.util.HashMap;
import java.util.Map;
import java.util.Set;
import java.util.TreeSet;
import java.util.regex.Matcher;
import java.util.regex.Pattern;

/** README.md is to be true: its rows are carried out in their order, each with the answer that it tells. */
public final class ReadmeTest {
    private static final Path README = Path.of("README.md");
    private static final String MAKE = "LionShield land = new LionShield();";
    private static final Pattern ROW = Pattern.compile("(?:int (\\w+) = )?land\\.(\\w+)\\(([^)]*)\\); +// (-?\\w+)(?:[:;, ].*)?");
    private static final int MOST_CALLS = 512;

    private final Map<String, Integer> names = new HashMap<>();
    private final Set<String> shown = new TreeSet<>();
    private LionShield land = new LionShield();
    private int calls = 0;

    public static void main(String[] args) throws Exception {
        ReadmeTest test = new ReadmeTest();
        boolean inside = false;
        for (String row : Files.readAllLines(README)) {
            if (row.startsWith("```")) {
                inside = row.equals("```java");
            } else if (inside) {
                test.carryOut(row);
            }
        }
        Due.is("calls on one object", test.calls <= MOST_CALLS ? 1 : 0, 1);
        test.showsEveryCall();
        Due.end();
    }

    private void carryOut(String row) throws ReflectiveOperationException {
        if (row.equals(MAKE)) {
            land = new LionShield();
            calls = 0;
            return;
        }
        Matcher m = ROW.matcher(row);
        if (!m.matches()) {
            Due.is("a row with its answer: " + row, 0, 1);
            return;
        }
        int got = call(m.group(2), m.group(3));
        Due.is("README: " + row, got, number(m.group(4)));
        if (m.group(1) != null) {
            names.put(m.group(1), got);
        }
    }

    private int call(String name, String told) throws ReflectiveOperationException {
        String[] parts = told.isEmpty() ? new String[0] : told.split(", ");
        Object[] values = new Object[parts.length];
        Class<?>[] types = new Class<?>[parts.length];
        for (int i = 0; i < parts.length; i++) {
            int sum = 0;
            for (String part : parts[i].split(" \\+ ")) {
                sum += number(part);
            }
            values[i] = sum;
            types[i] = int.class;
        }
        calls++;
        shown.add(name);
        return (Integer) LionShield.class.getMethod(name, types).invoke(land, values);
    }

    private int number(String word) throws ReflectiveOperationException {
        if (names.containsKey(word)) {
            return names.get(word);
        }
        if (word.matches("[A-Z]+")) {
            return LionShield.class.getField(word).getInt(null);
        }
        return Integer.decode(word);
    }

    private void showsEveryCall() {
        for (Method m : LionShield.class.getDeclaredMethods()) {
            if (Modifier.isPublic(m.getModifiers())) {
                Due.is("README shows " + m.getName(), shown.contains(m.getName()) ? 1 : 0, 1);
            }
        }
    }
}
