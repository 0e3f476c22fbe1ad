import java.io.IOException;
import java.lang.reflect.Method;
import java.lang.reflect.Modifier;
import java.nio.file.Files;
import java.nio.file.Path;
import java.util.ArrayList;
import java.util.Arrays;
import java.util.List;
import java.util.Set;
import java.util.TreeSet;
import java.util.regex.MatchResult;
import java.util.regex.Pattern;
import java.util.stream.Collectors;
import java.util.stream.Stream;

/** README.md tells the truth: its example answers what it says, and its tables are those of the program. */
public final class ReadmeTest {
    private static final Path README = Path.of("README.md");
    private static final Path TESTS = Path.of("src/test/java");

    private static final Pattern EXAMPLE = Pattern.compile("(?m)^x\\.(\\w+)\\(([^)]*)\\);\\s*// (-?\\d+): .+$");
    private static final Pattern CALL_ROW = Pattern.compile("(?m)^\\| `(\\w+)\\(([^)]*)\\)` \\|");
    private static final Pattern TOKEN_ROW = Pattern.compile(
            "(?m)^\\| (\\d+) \\| [A-Z]+ \\| (?:(\\d+) to (\\d+)|any) \\| ([FG, ]*)\\|");
    private static final Pattern TEST_ROW = Pattern.compile("(?m)^\\| `(\\w+Test)` \\|");

    public static void main(String[] args) throws IOException, ReflectiveOperationException {
        String text = Files.readString(README);
        example(text);
        calls(text);
        tokens(text);
        tests(text);
        Check.end();
    }

    private static void example(String text) throws ReflectiveOperationException {
        int start = text.indexOf("```java");
        String block = text.substring(start, text.indexOf("```\n", start + 3));
        List<MatchResult> lines = EXAMPLE.matcher(block).results().toList();
        Check.due("lines of the example", block.lines().count() - 2, lines.size());
        CallAdvice x = new CallAdvice();
        for (MatchResult line : lines) {
            Object[] arguments = numbers(line.group(2)).toArray();
            Object got = method(line.group(1)).invoke(x, arguments);
            Check.due("README's " + line.group(1) + "(" + line.group(2) + ")", Integer.parseInt(line.group(3)),
                    (Integer) got);
        }
    }

    private static List<Integer> numbers(String list) {
        List<Integer> found = new ArrayList<>();
        for (String number : list.isBlank() ? new String[0] : list.split(",")) {
            found.add(Integer.valueOf(number.strip()));
        }
        return found;
    }

    private static Method method(String name) {
        return Arrays.stream(CallAdvice.class.getMethods()).filter(m -> m.getName().equals(name)).findAny()
                .orElseThrow();
    }

    private static void calls(String text) {
        Set<String> told = new TreeSet<>();
        CALL_ROW.matcher(text).results().forEach(row -> told.add(row.group(1) + " "
                + (row.group(2).isBlank() ? 0 : row.group(2).split(",").length)));
        Set<String> face = Arrays.stream(CallAdvice.class.getDeclaredMethods())
                .filter(m -> Modifier.isPublic(m.getModifiers())).map(m -> m.getName() + " " + m.getParameterCount())
                .collect(Collectors.toCollection(TreeSet::new));
        Check.that("README's table has the calls " + face + ", and tells " + told, told.equals(face));
    }

    private static void tokens(String text) {
        List<MatchResult> rows = TOKEN_ROW.matcher(text).results().toList();
        Check.due("rows of README's tokens", 14, rows.size());
        for (int kind = 0; kind < rows.size(); kind++) {
            MatchResult row = rows.get(kind);
            Check.due("README's kind", kind, Integer.parseInt(row.group(1)));
            boolean any = row.group(2) == null;
            int least = any ? Integer.MIN_VALUE : Integer.parseInt(row.group(2));
            int most = any ? Integer.MAX_VALUE : Integer.parseInt(row.group(3));
            int takes = row.group(4).isBlank() ? 0 : row.group(4).split(",").length;
            tokenRow(kind, least, most, takes);
            if (!any) {
                Check.due("kind " + kind + " with less", -1, draftOf(takes).token(kind, least - 1));
                Check.due("kind " + kind + " with more", -1, draftOf(takes).token(kind, most + 1));
            }
        }
    }

    private static void tokenRow(int kind, int least, int most, int takes) {
        Check.due("kind " + kind + " with the least", 1, draftOf(takes).token(kind, least));
        Check.due("kind " + kind + " with the most", 1, draftOf(takes).token(kind, most));
        if (takes > 0) {
            Check.due("kind " + kind + " with a formula too few", -3, draftOf(takes - 1).token(kind, most));
        }
    }

    private static CallAdvice draftOf(int formulas) {
        CallAdvice x = new CallAdvice();
        for (int k = 0; k < formulas; k++) {
            x.token(Check.DEEP, 0);
        }
        return x;
    }

    private static void tests(String text) throws IOException {
        Set<String> told = new TreeSet<>();
        TEST_ROW.matcher(text).results().forEach(row -> told.add(row.group(1) + ".java"));
        try (Stream<Path> files = Files.list(TESTS)) {
            Set<String> there = files.map(f -> f.getFileName().toString()).filter(f -> f.endsWith("Test.java"))
                    .collect(Collectors.toCollection(TreeSet::new));
            Check.that("README's list has the tests " + there + ", and tells " + told, told.equals(there));
        }
    }
}
