import java.io.IOException;
import java.lang.reflect.Method;
import java.lang.reflect.Modifier;
import java.nio.file.Files;
import java.nio.file.Path;
import java.util.List;
import java.util.Map;
import java.util.Set;
import java.util.TreeMap;
import java.util.TreeSet;
import java.util.regex.Matcher;
import java.util.regex.Pattern;
import java.util.stream.Collectors;
import java.util.stream.Stream;

/** The calls of README.md answer what it says, and it names every call and test. Runs in the project's folder. */
public final class ReadmeTest {
    private static final Check CHECK = new Check();
    private static final String NEW = "CircusRoad circus = new CircusRoad();";
    private static final Pattern CALL = Pattern.compile("circus\\.(\\w+)\\((.*?)\\); +// (-?\\w+)(:? .*)?");
    private static final Map<String, Method> FACE = new TreeMap<>();

    public static void main(String[] args) throws IOException, ReflectiveOperationException {
        CHECK.about("README.md");
        for (Method method : CircusRoad.class.getDeclaredMethods()) {
            if (Modifier.isPublic(method.getModifiers())) {
                FACE.put(method.getName(), method);
            }
        }
        List<String> lines = Files.readAllLines(Path.of("README.md"));
        Set<String> called = makeCalls(lines);
        for (String name : FACE.keySet()) {
            CHECK.that(name + " isn't called", called.contains(name));
        }
        namesEveryTest(String.join("\n", lines));
        CHECK.end();
    }

    private static Set<String> makeCalls(List<String> lines) throws ReflectiveOperationException {
        Set<String> called = new TreeSet<>();
        CircusRoad circus = null;
        boolean inJava = false;
        for (String line : lines) {
            if (line.startsWith("```")) {
                inJava = line.equals("```java");
            } else if (inJava && line.equals(NEW)) {
                circus = new CircusRoad();
            } else if (inJava) {
                called.add(makeCall(circus, line));
            }
        }
        return called;
    }

    private static String makeCall(CircusRoad circus, String line) throws ReflectiveOperationException {
        Matcher call = CALL.matcher(line);
        if (circus == null || !call.matches() || !FACE.containsKey(call.group(1))) {
            CHECK.that("no call that can be made: " + line, false);
            return "";
        }
        Object got = FACE.get(call.group(1)).invoke(circus, arguments(call.group(2)));
        CHECK.that(line + " answered " + got, call.group(3).equals(got.toString()));
        return call.group(1);
    }

    private static Object[] arguments(String text) {
        if (text.isEmpty()) {
            return new Object[0];
        }
        return Stream.of(text.split(", ")).map(ReadmeTest::argument).toArray();
    }

    private static Object argument(String text) {
        if (text.equals("true") || text.equals("false")) {
            return Boolean.valueOf(text);
        }
        return Integer.valueOf(text);
    }

    private static void namesEveryTest(String text) throws IOException {
        List<String> tests;
        try (Stream<Path> files = Files.list(Path.of("src/test/java"))) {
            tests = files.map(file -> file.getFileName().toString()).filter(name -> name.endsWith("Test.java"))
                .collect(Collectors.toList());
        }
        for (String test : tests) {
            String name = test.substring(0, test.length() - ".java".length());
            CHECK.that(name + " isn't named", text.contains("`" + name + "`"));
        }
    }
}
