import java.io.IOException;
import java.lang.reflect.Method;
import java.lang.reflect.Modifier;
import java.nio.charset.StandardCharsets;
import java.nio.file.Files;
import java.nio.file.Path;
import java.util.Map;
import java.util.Set;
import java.util.TreeMap;
import java.util.TreeSet;
import java.util.regex.Matcher;
import java.util.regex.Pattern;
import java.util.stream.Collectors;
import java.util.stream.Stream;

/** What README.md says: its example answers as told there, and what it names is there, all of it. */
public final class ReadmeTest {
    private static final Path README = Path.of("README.md");
    private static final Path TESTS = Path.of("src/test/java");
    private static final Pattern EXAMPLE = Pattern.compile("(?s)```java\n(.*?)```");
    private static final Pattern TEXT = Pattern.compile("\"([^\"]*)\"\\.toCharArray\\(\\)");
    private static final Pattern CALL = Pattern.compile("^x\\.(\\w+)\\(([-0-9, ]*)\\); +// (-?\\d+|NONE|BAD|STATE|FULL)\\b");
    private static final Pattern CALL_OF_TABLE = Pattern.compile("(?m)^\\| `(\\w+)\\(([\\w, ]*)\\)` \\|");
    private static final Pattern ANSWER_OF_TABLE = Pattern.compile("(?m)^\\| `(\\w+)` = (-\\d+) \\|");
    private static final Pattern NAME = Pattern.compile("`([A-Z][A-Za-z]*)`");
    private static final Map<String, Integer> CONSTANTS = Map.of("NONE", DoorVotes.NONE, "BAD", DoorVotes.BAD,
            "STATE", DoorVotes.STATE, "FULL", DoorVotes.FULL);

    private ReadmeTest() {
    }

    public static void main(String[] args) throws IOException, ReflectiveOperationException {
        String page = Files.readString(README, StandardCharsets.UTF_8);
        theExampleAnswersAsTold(page);
        theTablesAreTheFace(page);
        namesAreThere(page);
        Check.dueTrue("it says how the tests are run", page.contains("```sh\n.ci/run\n```"));
        Check.end();
    }

    private static Map<String, Method> face() {
        Map<String, Method> face = new TreeMap<>();
        for (Method m : DoorVotes.class.getDeclaredMethods()) {
            if (Modifier.isPublic(m.getModifiers())) {
                face.put(m.getName(), m);
            }
        }
        return face;
    }

    private static void theExampleAnswersAsTold(String page) throws ReflectiveOperationException {
        Matcher example = EXAMPLE.matcher(page);
        Check.dueTrue("there is an example", example.find());
        DoorVotes x = new DoorVotes();
        for (String line : example.group(1).split("\n")) {
            Matcher text = TEXT.matcher(line);
            Matcher call = CALL.matcher(line);
            if (text.find()) {
                Check.feedAll(x, text.group(1));
            } else if (call.find()) {
                String told = call.group(3);
                long due = CONSTANTS.containsKey(told) ? CONSTANTS.get(told) : Long.parseLong(told);
                Check.due(line, answer(x, call.group(1), call.group(2)), due);
            } else {
                Check.dueTrue("makes the object: " + line, line.equals("DoorVotes x = new DoorVotes();"));
            }
        }
    }

    private static long answer(DoorVotes x, String name, String numbers) throws ReflectiveOperationException {
        Object[] given = numbers.isEmpty() ? new Object[0]
                : Stream.of(numbers.split(", ")).map(Integer::valueOf).toArray();
        return ((Number) face().get(name).invoke(x, given)).longValue();
    }

    private static void theTablesAreTheFace(String page) {
        Map<String, Method> face = face();
        Set<String> told = new TreeSet<>();
        Matcher calls = CALL_OF_TABLE.matcher(page);
        while (calls.find()) {
            String name = calls.group(1);
            int takes = calls.group(2).isEmpty() ? 0 : calls.group(2).split(", ").length;
            told.add(name);
            Check.dueTrue(name + " is of the face", face.containsKey(name));
            Check.dueTrue(name + " takes so many", face.containsKey(name)
                    && face.get(name).getParameterCount() == takes);
        }
        Check.dueTrue("every call of the face is told", told.equals(face.keySet()));
        Map<String, Integer> constants = new TreeMap<>();
        Matcher answers = ANSWER_OF_TABLE.matcher(page);
        while (answers.find()) {
            constants.put(answers.group(1), Integer.valueOf(answers.group(2)));
        }
        Check.dueTrue("every constant is told, as it is", constants.equals(new TreeMap<>(CONSTANTS)));
    }

    /** Classes and tests that the page names are there, and none is left out. */
    private static void namesAreThere(String page) throws IOException {
        Set<String> named = new TreeSet<>();
        Matcher names = NAME.matcher(page);
        while (names.find()) {
            named.add(names.group(1));
        }
        named.removeAll(CONSTANTS.keySet());
        Set<String> parts = Stream.of(DoorVotes.class.getDeclaredClasses()).map(Class::getSimpleName)
                .collect(Collectors.toCollection(TreeSet::new));
        parts.add("DoorVotes");
        Set<String> tests = new TreeSet<>();
        try (Stream<Path> files = Files.list(TESTS)) {
            files.forEach(file -> tests.add(file.getFileName().toString().replace(".java", "")));
        }
        for (String name : named) {
            Check.dueTrue(name + " is there", parts.contains(name) || tests.contains(name));
        }
        for (String name : parts) {
            Check.dueTrue("the class " + name + " is named", named.contains(name));
        }
        for (String name : tests) {
            Check.dueTrue("the test " + name + " is named", named.contains(name) || name.equals("Check"));
        }
    }
}
