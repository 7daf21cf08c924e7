import java.io.IOException;
import java.lang.reflect.InvocationTargetException;
import java.lang.reflect.Method;
import java.lang.reflect.Modifier;
import java.nio.file.Files;
import java.nio.file.Path;
import java.util.ArrayList;
import java.util.List;
import java.util.Set;
import java.util.TreeSet;
import java.util.regex.Matcher;
import java.util.regex.Pattern;
import java.util.stream.Stream;

/** README.md tells of each method of the class with what it throws, and its run of calls answers as it says. */
public final class ReadmeTest {
    private static final Pattern CALL = Pattern.compile("\\| `(\\w+)\\(([-0-9, ]*)\\)` \\| `([^`]*)` \\| .* \\|");
    private static final Pattern METHOD = Pattern.compile("\\| `(\\w+ \\w+\\([\\w, ]*\\))` \\| .* \\| (.*) \\|");
    private static final Pattern EXCEPTION = Pattern.compile("`(\\w+Exception)`");

    private static int wrong = 0;

    public static void main(String[] args) throws IOException, IllegalAccessException {
        List<String> lines = Files.readAllLines(Path.of("README.md"));
        playRun(lines);
        compareFace(lines);
        findTests(lines);
        System.out.println(wrong == 0 ? "README.md says what is so" : wrong + " faults of README.md");
        if (wrong != 0) {
            System.exit(1);
        }
    }

    private static void fault(String what) {
        wrong++;
        System.out.println("README.md: " + what);
    }

    private static List<Method> face() {
        List<Method> face = new ArrayList<>();
        for (Method m : Tessera.class.getDeclaredMethods()) {
            if (Modifier.isPublic(m.getModifiers())) {
                face.add(m);
            }
        }
        return face;
    }

    private static void playRun(List<String> lines) throws IllegalAccessException {
        Tessera x = new Tessera();
        Set<String> played = new TreeSet<>();
        for (String line : lines) {
            Matcher call = CALL.matcher(line);
            if (call.matches()) {
                String got = answer(x, call.group(1), call.group(2));
                if (!got.equals(call.group(3))) {
                    fault(call.group(1) + "(" + call.group(2) + ") answered " + got + ", it says " + call.group(3));
                }
                played.add(call.group(1));
            }
        }
        for (Method m : face()) {
            if (!played.contains(m.getName())) {
                fault("its run of calls has no " + m.getName());
            }
        }
    }

    private static String answer(Tessera x, String name, String numbers) throws IllegalAccessException {
        Object[] arguments = Stream.of(numbers.split(", ")).filter(n -> !n.isEmpty()).map(Integer::valueOf).toArray();
        for (Method m : face()) {
            if (m.getName().equals(name) && m.getParameterCount() == arguments.length) {
                try {
                    return String.valueOf(m.invoke(x, arguments));
                } catch (InvocationTargetException e) {
                    return "throws " + e.getCause().getClass().getSimpleName();
                }
            }
        }
        return "nothing, for there is no such method";
    }

    /** A row of the page tells of a method by "answer name(type name, ..)" and, in its last cell, by what it throws. */
    private static void compareFace(List<String> lines) {
        Set<String> said = new TreeSet<>();
        for (String line : lines) {
            Matcher row = METHOD.matcher(line);
            if (row.matches()) {
                said.add(row.group(1).replaceAll("(\\w+) \\w+(?=[,)])", "$1") + exceptionsIn(row.group(2)));
            }
        }
        Set<String> due = new TreeSet<>();
        for (Method m : face()) {
            due.add(told(m));
        }
        if (!said.equals(due)) {
            fault("it tells of " + said + ", the class has " + due);
        }
    }

    private static List<String> exceptionsIn(String cell) {
        List<String> names = new ArrayList<>();
        Matcher exception = EXCEPTION.matcher(cell);
        while (exception.find()) {
            names.add(exception.group(1));
        }
        return names;
    }

    private static String told(Method m) {
        List<String> types = new ArrayList<>();
        for (Class<?> type : m.getParameterTypes()) {
            types.add(type.getSimpleName());
        }
        List<String> exceptions = new ArrayList<>();
        for (Class<?> e : m.getExceptionTypes()) {
            exceptions.add(e.getSimpleName());
        }
        return m.getReturnType().getSimpleName() + " " + m.getName() + "(" + String.join(", ", types) + ")" + exceptions;
    }

    private static void findTests(List<String> lines) throws IOException {
        String page = String.join("\n", lines);
        try (Stream<Path> files = Files.list(Path.of("src/test/java"))) {
            files.map(f -> f.getFileName().toString().replace(".java", ""))
                    .filter(name -> !page.contains("`" + name + "`"))
                    .forEach(name -> fault("it does not tell of " + name));
        }
    }
}
