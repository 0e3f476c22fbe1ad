import java.io.IOException;
import java.io.InputStream;
import java.nio.charset.StandardCharsets;
import java.nio.file.Files;
import java.nio.file.Path;
import java.util.ArrayList;
import java.util.HashSet;
import java.util.List;
import java.util.Map;
import java.util.Set;
import java.util.TreeMap;
import java.util.regex.Matcher;
import java.util.regex.Pattern;

/** Those rules of LANGUAGE.md that can be seen in the program's words or when compiled; the others are for readers. */
public final class LanguageTest {
    private static final Path SOURCE = Path.of("src/main/java/CallAdvice.java");

    private static final Set<String> FORBIDDEN = Set.of("package", "import", "class", "interface", "enum", "record",
            "float", "double", "String", "Math", "Integer", "Long", "System", "Arrays", "Object", "null", "throw",
            "throws", "try", "catch", "finally", "synchronized", "assert", "instanceof", "super", "this", "var",
            "protected", "native", "length", "clone", "equals", "hashCode", "toString", "getClass");

    private static final Set<String> NO_CALLS = Set.of("if", "for", "while", "switch", "return");

    private static final Pattern WORD = Pattern.compile("[A-Za-z_]\\w*");
    private static final Pattern METHOD = Pattern.compile(
            "(?m)^    (?:public|private) (?:static )?(?:\\w+ )?(\\w+)\\([^)]*\\) \\{$");
    private static final Pattern ARRAY = Pattern.compile(
            "(?m)^    private final \\w+\\[\\] \\w+ = new \\w+\\[[A-Z_]+\\];$");

    public static void main(String[] args) throws IOException {
        String code = Files.readString(SOURCE).replaceAll("(?s)/\\*.*?\\*/", "").replaceAll("//[^\\n]*", "");
        String body = code.substring(code.indexOf('{') + 1);
        words(body);
        arrays(body);
        Map<String, String> methods = methods(body);
        Check.that("methods are found", methods.size() > 17);
        methods.forEach(LanguageTest::method);
        deep(methods);
        compiled();
        Check.end();
    }

    /** The names in the compiled class tell what its words may hide. */
    private static void compiled() throws IOException {
        String names;
        try (InputStream in = CallAdvice.class.getResourceAsStream("CallAdvice.class")) {
            names = new String(in.readAllBytes(), StandardCharsets.ISO_8859_1);
        }
        Check.that("no static field is worked out when the class is loaded", !names.contains("<clinit>"));
        Check.that("nothing is made by a bootstrap method", !names.contains("BootstrapMethods"));
        Matcher m = Pattern.compile("java/[\\w/]+").matcher(names);
        while (m.find()) {
            Check.due("the class " + m.group() + " of the library", 0, m.group().equals("java/lang/Object") ? 0 : 1);
        }
    }

    private static void words(String body) {
        Matcher m = WORD.matcher(body);
        while (m.find()) {
            Check.that("the word " + m.group() + " is left", !FORBIDDEN.contains(m.group()));
        }
        Check.that("no lambda and no method reference", !body.contains("->") && !body.contains("::"));
        Check.that("no text", body.indexOf('"') < 0);
        Check.that("no division without a look", body.indexOf('/') < 0 && body.indexOf('%') < 0);
        Check.that("no member of an object", !Pattern.compile("\\w\\.\\w").matcher(body).find());
    }

    private static void arrays(String body) {
        long made = Pattern.compile("\\bnew\\b").matcher(body).results().count();
        Check.due("arrays made in the fields' initialisers", made, ARRAY.matcher(body).results().count());
    }

    /** The methods' names, each with its lines. */
    private static Map<String, String> methods(String body) {
        Map<String, String> found = new TreeMap<>();
        Matcher m = METHOD.matcher(body);
        while (m.find()) {
            int end = body.indexOf("\n    }\n", m.end());
            Check.that(m.group(1) + " stands once", found.put(m.group(1), body.substring(m.end(), end)) == null);
        }
        return found;
    }

    private static void method(String name, String lines) {
        Check.that(name + " is short", lines.lines().count() <= 60);
        for (int open : callsIn(lines)) {
            int close = closing(lines, open);
            String arguments = lines.substring(open + 1, close);
            Check.that(name + ": no call inside the arguments (" + arguments + ")", callsIn(arguments).isEmpty());
        }
        Check.that(name + ": no while without a bound", !WORD.matcher(lines).results()
                .anyMatch(w -> w.group().equals("while") || w.group().equals("do")));
    }

    /** Where the brackets of calls open. */
    private static List<Integer> callsIn(String lines) {
        List<Integer> found = new ArrayList<>();
        Matcher m = Pattern.compile("(\\w+) ?\\(").matcher(lines);
        while (m.find()) {
            if (!NO_CALLS.contains(m.group(1))) {
                found.add(m.end() - 1);
            }
        }
        return found;
    }

    private static int closing(String lines, int open) {
        int depth = 0;
        for (int i = open; i < lines.length(); i++) {
            depth += lines.charAt(i) == '(' ? 1 : lines.charAt(i) == ')' ? -1 : 0;
            if (depth == 0) {
                return i;
            }
        }
        return lines.length();
    }

    /** Calls go at most six deep, which they could not with recursion. */
    private static void deep(Map<String, String> methods) {
        for (String name : methods.keySet()) {
            Set<String> now = Set.of(name);
            int depth = 0;
            while (!now.isEmpty() && depth <= 6) {
                now = called(methods, now);
                depth++;
            }
            Check.that("calls of " + name + " go at most six deep", depth <= 6);
        }
    }

    private static Set<String> called(Map<String, String> methods, Set<String> names) {
        Set<String> found = new HashSet<>();
        for (String name : names) {
            String lines = methods.get(name);
            for (int open : callsIn(lines)) {
                Matcher m = Pattern.compile("(\\w+) ?$").matcher(lines.substring(0, open));
                if (m.find() && methods.containsKey(m.group(1))) {
                    found.add(m.group(1));
                }
            }
        }
        return found;
    }
}
