import java.io.IOException;
import java.lang.reflect.InvocationTargetException;
import java.lang.reflect.Method;
import java.lang.reflect.Modifier;
import java.nio.file.DirectoryStream;
import java.nio.file.Files;
import java.nio.file.Path;
import java.util.ArrayList;
import java.util.List;
import java.util.regex.Matcher;
import java.util.regex.Pattern;

/** README.md: its rows of Java answer what is written behind them, and it names every call and every test. */
public final class ReadmeTest extends Checks {
    private static final Pattern ROW = Pattern.compile("x\\.(\\w+)\\(([^)]*)\\); +// (-?\\d+): .*");
    private static final Pattern ENTRY = Pattern.compile("\\| `(\\w+)\\(([^)]*)\\)` \\| .+ \\|");
    private static final String NEW_OBJECT = "DrawnTalks x = new DrawnTalks();";

    public static void main(String[] args) throws IOException, ReflectiveOperationException {
        List<String> page = Files.readAllLines(Path.of("README.md"));
        rowsAnswer(page);
        everyCallStands(page);
        everyTestStands(page);
        finish("the README holds");
    }

    private static void rowsAnswer(List<String> page) throws ReflectiveOperationException {
        DrawnTalks x = null;
        int rows = 0;
        boolean inJava = false;
        for (String row : page) {
            if (row.startsWith("```")) {
                inJava = row.equals("```java");
            } else if (inJava && row.equals(NEW_OBJECT)) {
                x = new DrawnTalks();
            } else if (inJava) {
                Matcher m = ROW.matcher(row);
                boolean isCall = m.matches();
                due("a call with its answer: " + row, isCall ? 1 : 0, 1);
                if (isCall) {
                    due(row, answer(x, m.group(1), m.group(2)), Long.parseLong(m.group(3)));
                    rows++;
                }
            }
        }
        due("README has rows of Java", rows > 0 ? 1 : 0, 1);
    }

    private static long answer(DrawnTalks x, String name, String told) throws ReflectiveOperationException {
        String[] texts = told.isEmpty() ? new String[0] : told.split(", ");
        Method m = call(name, texts.length);
        Object[] values = new Object[texts.length];
        for (int k = 0; k < texts.length; k++) {
            String text = texts[k];
            boolean isLong = m.getParameterTypes()[k] == long.class;
            values[k] = isLong ? (Object) Long.decode(text.replace("L", "")) : (Object) Integer.decode(text);
        }
        try {
            return ((Number) m.invoke(x, values)).longValue();
        } catch (InvocationTargetException e) {
            throw new IllegalStateException(name + "(" + told + ") throws", e);
        }
    }

    private static Method call(String name, int parameters) throws NoSuchMethodException {
        for (Method m : calls()) {
            if (m.getName().equals(name) && m.getParameterCount() == parameters) {
                return m;
            }
        }
        throw new NoSuchMethodException(name + " of " + parameters);
    }

    private static List<Method> calls() {
        List<Method> all = new ArrayList<>();
        for (Method m : DrawnTalks.class.getDeclaredMethods()) {
            if (Modifier.isPublic(m.getModifiers())) {
                all.add(m);
            }
        }
        return all;
    }

    private static void everyCallStands(List<String> page) {
        for (Method m : calls()) {
            int entries = 0;
            for (String row : page) {
                Matcher e = ENTRY.matcher(row);
                if (e.matches() && e.group(1).equals(m.getName())) {
                    int parameters = e.group(2).isEmpty() ? 0 : e.group(2).split(", ").length;
                    due("parameters in README of " + m.getName(), parameters, m.getParameterCount());
                    entries++;
                }
            }
            due("entries in README of " + m.getName(), entries, 1);
        }
    }

    private static void everyTestStands(List<String> page) throws IOException {
        String whole = String.join("\n", page);
        due("README tells of .ci/run", whole.contains("\n.ci/run\n") ? 1 : 0, 1);
        try (DirectoryStream<Path> tests = Files.newDirectoryStream(Path.of("src/test/java"), "*Test.java")) {
            for (Path test : tests) {
                String name = test.getFileName().toString().replace(".java", "");
                due("README tells of " + name, whole.contains("`" + name + "`") ? 1 : 0, 1);
            }
        }
    }
}
