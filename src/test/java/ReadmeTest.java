import java.io.IOException;
import java.lang.reflect.InvocationTargetException;
import java.lang.reflect.Method;
import java.nio.file.Files;
import java.nio.file.Path;
import java.util.ArrayList;
import java.util.Arrays;
import java.util.List;
import java.util.Set;
import java.util.TreeSet;
import java.util.regex.Matcher;
import java.util.regex.Pattern;

/** README.md tells every call as the document does, and its example answers as it says. */
public final class ReadmeTest {
    private static final Path README = Path.of("README.md");
    private static final Path DOCUMENT = Path.of("../shared/DOC.md");
    private static final Pattern PROMISE = Pattern.compile("## Promise \\d+: (\\S+)\\s+`((?:int|long) [^`]+)`: ([^\n]*)");
    private static final Pattern TABLE_ROW = Pattern.compile("(?m)^\\| `((?:int|long) [^`]+)` \\| (.*) \\| ([A-Z, ]*)\\|$");
    private static final Pattern EXAMPLE = Pattern.compile("(?m)^x\\.(\\w+)\\(([-0-9, ]*)\\); *// (-?\\d+)\\b");

    private static final Checks c = new Checks();

    public static void main(String[] args) throws IOException, ReflectiveOperationException {
        String readme = Files.readString(README);
        calls(readme, Files.readString(DOCUMENT));
        refusals(readme);
        example(readme);
        running(readme);
        c.end();
    }

    /** The tables hold the document's calls in their order, each with the refusals and the NONE that its promise names. */
    private static void calls(String readme, String document) {
        List<String> due = new ArrayList<>();
        List<String> told = new ArrayList<>();
        Matcher promise = PROMISE.matcher(document);
        while (promise.find()) {
            // STATUS names the three as what it counts, and is never refused itself
            boolean refuses = !promise.group(1).equals("status");
            due.add(promise.group(2) + (refuses ? wordsIn(promise.group(3)) : "[]"));
        }
        Matcher row = TABLE_ROW.matcher(readme);
        while (row.find()) {
            Set<String> words = wordsIn(row.group(3));
            words.addAll(row.group(2).contains("`NONE`") ? Set.of("NONE") : Set.of());
            told.add(row.group(1) + words);
        }
        c.due("promises of calls", due.size(), 37);
        for (String call : due) {
            c.holds("README.md has " + call, told.contains(call));
        }
        c.holds("README.md's calls in the document's order: " + told, told.equals(due));
    }

    private static Set<String> wordsIn(String text) {
        Set<String> words = new TreeSet<>(Arrays.asList(text.split("[^A-Z]+")));
        words.retainAll(Set.of("BAD", "NO", "FULL", "NONE"));
        return words;
    }

    private static void refusals(String readme) {
        c.holds("how an object is made", readme.contains("HandedSlips x = new HandedSlips();"));
        c.holds("BAD is told", readme.contains("`BAD` (" + HandedSlips.BAD + ")"));
        c.holds("NO is told", readme.contains("`NO` (" + HandedSlips.NO + ")"));
        c.holds("FULL is told", readme.contains("`FULL` (" + HandedSlips.FULL + ")"));
        c.holds("NONE is told", readme.contains("`NONE` (" + HandedSlips.NONE + ")"));
    }

    private static void example(String readme) throws ReflectiveOperationException {
        HandedSlips x = new HandedSlips();
        Matcher line = EXAMPLE.matcher(readme);
        int lines = 0;
        while (line.find()) {
            c.due("README.md's " + line.group(), answer(x, line.group(1), line.group(2)), Long.parseLong(line.group(3)));
            lines++;
        }
        long meantLines = readme.lines().filter(text -> text.startsWith("x.")).count();
        c.due("lines of the example", lines, meantLines);
        c.holds("there is an example", lines > 30);
    }

    private static long answer(HandedSlips x, String name, String numbers) throws ReflectiveOperationException {
        Object[] values = Arrays.stream(numbers.split(",")).map(String::trim).filter(text -> !text.isEmpty())
            .map(Integer::valueOf).toArray();
        Class<?>[] types = new Class<?>[values.length];
        Arrays.fill(types, int.class);
        Method method = HandedSlips.class.getMethod(name, types);
        try {
            return ((Number) method.invoke(x, values)).longValue();
        } catch (InvocationTargetException e) {
            throw new IllegalStateException(name + " threw", e.getCause());
        }
    }

    /** The command, what it needs, and each test by its name. */
    private static void running(String readme) throws IOException {
        for (String needed : new String[] {".ci/run", "`javac`", "`java`", "`bash`", "../shared/tests"}) {
            c.holds("README.md names " + needed, readme.contains(needed));
        }
        try (var files = Files.list(Path.of("src/test/java"))) {
            files.map(file -> file.getFileName().toString().replace(".java", "")).filter(name -> name.endsWith("Test"))
                .forEach(name -> c.holds("README.md names " + name, readme.contains("`" + name + "`")));
        }
    }
}
