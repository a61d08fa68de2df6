import java.io.IOException;
import java.lang.reflect.Method;
import java.lang.reflect.Modifier;
import java.nio.file.Files;
import java.nio.file.Path;
import java.util.ArrayList;
import java.util.HashMap;
import java.util.HashSet;
import java.util.List;
import java.util.Map;
import java.util.Set;
import java.util.regex.Matcher;
import java.util.regex.Pattern;
import java.util.stream.Stream;

/** Makes the calls that README.md tells and holds what it says of them beside what they answer. */
public final class ReadmeTest {
    private static final Due due = new Due("ReadmeTest");
    private static final Pattern FENCED = Pattern.compile("(?s)```java\n(.*?)```");
    private static final Pattern LINE =
            Pattern.compile("(?:int (\\w+) = )?x\\.(\\w+)\\(([^)]*)\\); +// (-?\\w+)(?:: \\S.*|,.*)?");
    private static final String MADE = "StackDepths x = new StackDepths();";

    private static final Map<String, Method> face = new HashMap<>();
    private static final Map<String, Integer> known = new HashMap<>();
    private static final Set<String> shown = new HashSet<>();
    private static StackDepths x;

    public static void main(String[] args) throws IOException, ReflectiveOperationException {
        for (Method method : StackDepths.class.getDeclaredMethods()) {
            if (Modifier.isPublic(method.getModifiers())) face.put(method.getName(), method);
        }
        for (String name : List.of("BAD", "STATE", "FULL", "NONE", "ENDLESS")) {
            known.put(name, StackDepths.class.getField(name).getInt(null));
        }
        String page = Files.readString(Path.of("README.md"));
        for (Matcher block = FENCED.matcher(page); block.find(); ) {
            for (String line : block.group(1).split("\n")) follow(line);
        }
        for (String name : face.keySet()) due.holds("README.md shows " + name, shown.contains(name));
        answersTold(page);
        testsTold(page);
        due.end();
    }

    private static void follow(String line) throws ReflectiveOperationException {
        if (line.equals(MADE)) {
            x = new StackDepths();
            return;
        }
        Matcher told = LINE.matcher(line);
        boolean read = told.matches() && x != null && face.containsKey(told.group(2));
        due.holds("README.md has calls and answers alone: " + line, read);
        if (!read) return;
        int answer = (Integer) face.get(told.group(2)).invoke(x, argumentsIn(told.group(3)));
        due.is("README.md, " + line.strip(), answer, valueOf(told.group(4)));
        if (told.group(1) != null) known.put(told.group(1), answer);
        shown.add(told.group(2));
    }

    private static Object[] argumentsIn(String list) {
        List<Object> values = new ArrayList<>();
        for (String word : list.isBlank() ? new String[0] : list.split(", ")) {
            boolean flag = word.equals("true") || word.equals("false");
            values.add(flag ? (Object) Boolean.valueOf(word) : (Object) valueOf(word));
        }
        return values.toArray();
    }

    private static Integer valueOf(String word) {
        Integer value = known.get(word);
        return value != null ? value : Integer.valueOf(word);
    }

    private static void answersTold(String page) {
        Matcher row = Pattern.compile("\\| `([A-Z]+)` (-\\d+) \\|").matcher(page);
        int rows = 0;
        for (; row.find(); rows++) {
            due.is("README.md, " + row.group(1), valueOf(row.group(2)), valueOf(row.group(1)));
        }
        due.is("answers in README.md", rows, 5);
    }

    private static void testsTold(String page) throws IOException {
        due.holds("README.md tells how the tests are run", page.contains("\n    .ci/run\n"));
        try (Stream<Path> files = Files.list(Path.of("src/test/java"))) {
            files.map(file -> file.getFileName().toString()).filter(name -> name.endsWith("Test.java"))
                    .map(name -> name.substring(0, name.length() - ".java".length()))
                    .forEach(name -> due.holds("README.md tells of " + name, page.contains("| `" + name + "` |")));
        }
    }
}
