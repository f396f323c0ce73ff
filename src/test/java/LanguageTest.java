import java.io.IOException;
import java.lang.reflect.Field;
import java.lang.reflect.Method;
import java.lang.reflect.Modifier;
import java.nio.file.Files;
import java.nio.file.Path;
import java.util.Arrays;
import java.util.List;
import java.util.Set;
import java.util.TreeSet;
import java.util.regex.Matcher;
import java.util.regex.Pattern;

/** What a program can tell of ../shared/LANGUAGE.md: the face (rule 1), and words that are ruled out. */
public final class LanguageTest {
    private static final List<String> FACE = List.of(
            "about(int,int):int", "alike(int,int):int", "behind(int,int,int):int", "clear():int", "count(int):int",
            "drawn(int,int,int):int", "event(int,int,int):int", "fresh(int,int):int", "kept(int,int,int,int):int",
            "line(int,int,int):int", "mixes(int,int):int", "moments(int):int", "orders(int):long", "play(int,int):int",
            "race(int,int,int):int", "take(int,int):int", "talk(int):int", "type(long,int):int", "under(int,int):int");
    private static final List<String> CONSTANTS = List.of("BAD", "FULL", "NONE", "STATE");
    private static final List<String> RULED_OUT = List.of(
            "throw", "throws", "try", "catch", "finally", "synchronized", "assert", "import", "package", "yield",
            "native", "volatile", "transient", "strictfp", "protected", "hashCode", "toString", "equals", "System",
            "Thread", "Object", "var", "->", "::");

    private static int wrong = 0;

    private static void want(boolean holds, String what) {
        if (!holds) {
            wrong++;
            System.out.println(what);
        }
    }

    public static void main(String[] args) throws IOException {
        face();
        words();
        rooms();
        System.out.println(wrong == 0 ? "the language is kept to" : wrong + " rules are broken");
        if (wrong != 0) {
            System.exit(1);
        }
    }

    private static void face() {
        Class<?> c = DrawnTalks.class;
        want(Modifier.isFinal(c.getModifiers()) && Modifier.isPublic(c.getModifiers()), "the class is not public final");
        want(c.getDeclaredConstructors().length == 1 && c.getConstructors().length == 1
                && c.getConstructors()[0].getParameterCount() == 0, "the constructors are others");
        Set<String> methods = new TreeSet<>();
        Set<String> names = new TreeSet<>();
        for (Method m : c.getDeclaredMethods()) {
            if (!Modifier.isPrivate(m.getModifiers())) {
                methods.add(m.getName() + "(" + String.join(",", Arrays.stream(m.getParameterTypes())
                        .map(Class::getName).toList()) + "):" + m.getReturnType().getName());
                names.add(m.getName());
            }
        }
        want(methods.equals(new TreeSet<>(FACE)), "the methods are others: " + methods);
        Set<String> constants = new TreeSet<>();
        for (Field f : c.getDeclaredFields()) {
            if (!Modifier.isPrivate(f.getModifiers())) {
                constants.add(f.getName());
            }
        }
        want(constants.equals(new TreeSet<>(CONSTANTS)), "the constants are others: " + constants);
        for (Method m : c.getDeclaredMethods()) {
            want(!Modifier.isPrivate(m.getModifiers()) || !names.contains(m.getName()), "private and public: " + m);
        }
        for (Class<?> inner : c.getDeclaredClasses()) {
            want(Modifier.isStatic(inner.getModifiers()) && !Modifier.isPublic(inner.getModifiers()),
                    "not static or public: " + inner);
            for (Method m : inner.getDeclaredMethods()) {
                want(!names.contains(m.getName()), "the name of a public method: " + m);
                want(m.getParameterCount() <= 7, "too many parameters: " + m);
            }
        }
        want(c.getDeclaredClasses().length <= 12, "too many classes");
    }

    private static void words() throws IOException {
        String source = Files.readString(Path.of("src/main/java/DrawnTalks.java"));
        String code = source.replaceAll("(?s)/\\*.*?\\*/", "").replaceAll("//[^\n]*", "").replaceAll("\"[^\"\n]*\"", "\"\"");
        for (String word : RULED_OUT) {
            String pattern = Character.isLetter(word.charAt(0)) ? "\\b" + word + "\\b" : Pattern.quote(word);
            want(!Pattern.compile(pattern).matcher(code).find(), "ruled out: " + word);
        }
        Matcher statics = Pattern.compile("static (?!final )[^(\n]*[;=]").matcher(code);
        want(!statics.find(), "a static field that is not final");
        want(source.chars().allMatch(c -> c == '\n' || c >= 32 && c < 127), "a sign that is no plain one");
    }

    /** Only constructors make objects or arrays, so that a run's room does not grow with its calls. */
    private static void rooms() throws IOException {
        boolean inConstructor = false;
        for (String row : Files.readAllLines(Path.of("src/main/java/DrawnTalks.java"))) {
            if (row.matches("    public DrawnTalks\\(\\) \\{")) {
                inConstructor = true;
            } else if (row.equals("    }")) {
                inConstructor = false;
            }
            boolean isField = row.matches(" +private final [A-Za-z\\[\\]]+ [A-Za-z]+ = new .*;");
            want(!row.contains("new ") || inConstructor || isField || row.contains("*"), "made by a call: " + row);
        }
    }
}
