import java.io.IOException;
import java.lang.reflect.Method;
import java.lang.reflect.Modifier;
import java.nio.file.Files;
import java.nio.file.Path;
import java.util.ArrayList;
import java.util.List;
import java.util.TreeSet;
import java.util.regex.Matcher;
import java.util.regex.Pattern;
import java.util.stream.Stream;

/** What README.md says of using the class and of running its tests holds for the project as it stands. */
final class ReadmeTest {
    private static final Pattern CALL = Pattern.compile("x\\.(\\w+)\\((.*)\\);\\s*// ([^:]+?)(: .*)?");
    private static final Pattern ROW = Pattern.compile("\\| `(\\w+)\\((.*)\\)` \\|(.*)\\|(.*)\\|(.*)\\|");
    private static final Pattern NAME = Pattern.compile("`(\\w+Test|Due|Twins|Pasts|SlowModel)\\b");
    private static final Pattern PLACE = Pattern.compile("(?:src|\\.ci|\\.\\./shared)(?:/[\\w.]+)+");

    private ReadmeTest() {
    }

    public static void main(String[] args) throws IOException, ReflectiveOperationException {
        String text = Files.readString(Path.of("README.md"));
        List<String> lines = text.lines().toList();
        exampleAnswers(lines);
        tableOfCalls(lines);
        testsAreNamed(text);
        placesAreThere(text);
        Due.end("ReadmeTest");
    }

    private static void exampleAnswers(List<String> lines) throws ReflectiveOperationException {
        Due.of("each line tells what its call answers");
        int begin = lines.indexOf("```java");
        Due.is("the object", lines.get(begin + 1).equals("ColdGrid x = new ColdGrid();") ? 1 : 0, 1);
        ColdGrid x = new ColdGrid();
        TreeSet<String> called = new TreeSet<>();
        for (int at = begin + 2; !lines.get(at).equals("```"); at++) {
            Matcher call = CALL.matcher(lines.get(at));
            boolean isCall = call.matches();
            Due.is("a call with its answer: " + lines.get(at), isCall ? 1 : 0, 1);
            if (isCall) {
                called.add(call.group(1));
                List<Object> arguments = new ArrayList<>();
                for (String told : parts(call.group(2))) {
                    arguments.add(told.equals("true") ? (Object) true : (Object) Integer.valueOf(told));
                }
                Due.is(lines.get(at), answer(x, call.group(1), arguments), told(call.group(3)));
            }
        }
        for (Method m : openMethods()) {
            Due.is("the example shows " + m.getName(), called.contains(m.getName()) ? 1 : 0, 1);
        }
    }

    private static List<String> parts(String arguments) {
        return arguments.isEmpty() ? List.of() : List.of(arguments.split(", "));
    }

    private static int told(String answer) {
        switch (answer) {
            case "BAD":
                return ColdGrid.BAD;
            case "NOT":
                return ColdGrid.NOT;
            case "least int":
                return Integer.MIN_VALUE;
            default:
                return Integer.parseInt(answer);
        }
    }

    private static List<Method> openMethods() {
        List<Method> open = new ArrayList<>();
        for (Method m : ColdGrid.class.getDeclaredMethods()) {
            if (Modifier.isPublic(m.getModifiers())) {
                open.add(m);
            }
        }
        return open;
    }

    private static int answer(ColdGrid x, String name, List<Object> arguments) throws ReflectiveOperationException {
        for (Method m : openMethods()) {
            if (m.getName().equals(name) && m.getParameterCount() == arguments.size()) {
                return (int) m.invoke(x, arguments.toArray());
            }
        }
        throw new NoSuchMethodException(name);
    }

    private static void tableOfCalls(List<String> lines) throws ReflectiveOperationException {
        Due.of("the table has each call once, and how it tells wrong arguments");
        TreeSet<String> rows = new TreeSet<>();
        for (String line : lines) {
            Matcher row = ROW.matcher(line);
            if (row.matches()) {
                String name = row.group(1);
                Due.is("once: " + name, rows.add(name) ? 1 : 0, 1);
                List<Object> worst = new ArrayList<>();
                for (String parameter : parts(row.group(2))) {
                    worst.add(parameter.equals("dead") ? (Object) true : (Object) Integer.MIN_VALUE);
                }
                int got = answer(new ColdGrid(), name, worst);
                String wrong = row.group(4).trim();
                if (!wrong.isEmpty()) {
                    Due.is("wrong arguments of " + name, got, told(wrong));
                } else if (row.group(5).trim().startsWith("NOT")) {
                    Due.is("refused by a new object: " + name, got, ColdGrid.NOT);
                } else {
                    Due.is("never refused: " + name, got >= 0 ? 1 : 0, 1);
                }
            }
        }
        Due.is("as many as there are", rows.size(), openMethods().size());
    }

    private static void testsAreNamed(String text) throws IOException {
        Due.of("each file of src/test/java is named, and each that is named is there");
        TreeSet<String> named = new TreeSet<>();
        Matcher name = NAME.matcher(text);
        while (name.find()) {
            named.add(name.group(1) + ".java");
        }
        TreeSet<String> there = new TreeSet<>();
        try (Stream<Path> files = Files.list(Path.of("src/test/java"))) {
            files.forEach(file -> there.add(file.getFileName().toString()));
        }
        Due.is("named " + named + ", there " + there, named.equals(there) ? 1 : 0, 1);
    }

    private static void placesAreThere(String text) {
        Due.of("each file that is named is there");
        Matcher place = PLACE.matcher(text);
        int found = 0;
        while (place.find()) {
            found++;
            Due.is(place.group(), Files.exists(Path.of(place.group())) ? 1 : 0, 1);
        }
        Due.is("some are named", found > 0 ? 1 : 0, 1);
        Due.is(".ci/run can be run", Files.isExecutable(Path.of(".ci/run")) ? 1 : 0, 1);
    }
}
