import java.lang.reflect.Method;
import java.nio.file.Files;
import java.nio.file.Path;
import java.util.ArrayList;
import java.util.LinkedHashMap;
import java.util.List;
import java.util.Map;
import java.util.Set;
import java.util.TreeSet;
import java.util.regex.Matcher;
import java.util.regex.Pattern;
import java.util.stream.Stream;

/**
 * README.md names each call of the document's face, with the refusals that the document names in that order, and each
 * call in its examples answers what stands behind it.
 */
public final class ReadmeTest {
    private static final Pattern FACE = Pattern.compile("public ((?:int|long) \\w+\\([^)]*\\));");
    private static final Pattern PROMISE = Pattern.compile("`((?:int|long) \\w+\\([^)]*\\))`: ([^\n]*)");
    private static final Pattern ROW =
        Pattern.compile("\\| `((?:int|long) \\w+\\([^)]*\\))` \\| ([^|]+) \\| ([^|]+) \\| ([^|]+) \\|");
    private static final Pattern REFUSAL = Pattern.compile("\\b(UNKNOWN|OUTSIDE|NO|STATE|FULL)\\b");
    private static final Pattern BLOCK = Pattern.compile("(?s)```java\n(.*?)```");
    private static final Pattern SAYING =
        Pattern.compile("for \\(char sign : \"([^\"]*)\"\\.toCharArray\\(\\)\\) x\\.say\\(sign\\);");
    private static final Pattern CALL = Pattern.compile("x\\.(\\w+)\\(([^)]*)\\); +// ([^:]+)(?:: .+)?");
    private static final int CALLS_OF_AN_OBJECT = 512;
    private static int wrong = 0;

    private static void due(String what, Object got, Object want) {
        if (!got.equals(want)) {
            wrong++;
            System.out.println(what + ": " + got + ", due is " + want);
        }
    }

    private static List<String> refusals(String text) {
        List<String> all = new ArrayList<>();
        Matcher m = REFUSAL.matcher(text);
        while (m.find()) all.add(m.group());
        return all;
    }

    private static void calls(String document, String readme) {
        List<String> face = new ArrayList<>();
        Matcher m = FACE.matcher(document);
        while (m.find()) face.add(m.group(1));
        due("calls of the document's face", face.size(), 30);
        Map<String, List<String>> promised = new LinkedHashMap<>();
        m = PROMISE.matcher(document);
        while (m.find()) promised.put(m.group(1), refusals(m.group(2)));
        due("promises of the document", new ArrayList<>(promised.keySet()), face);
        Map<String, List<String>> told = new LinkedHashMap<>();
        m = ROW.matcher(readme);
        while (m.find()) told.put(m.group(1), refusals(m.group(4)));
        due("calls in README.md", new ArrayList<>(told.keySet()), face);
        for (String call : face) due(call + " refuses", told.getOrDefault(call, List.of()), promised.get(call));
    }

    private static void constants(String readme) {
        due("NONE", number(readme, "\\| `NONE` \\| (-\\d+):"), TouchReign.NONE);
        due("UNKNOWN", number(readme, "\\| `UNKNOWN` \\| (-\\d+) \\|"), TouchReign.UNKNOWN);
        due("OUTSIDE", number(readme, "\\| `OUTSIDE` \\| (-\\d+) \\|"), TouchReign.OUTSIDE);
        due("NO", number(readme, "\\| `NO` \\| (-\\d+) \\|"), TouchReign.NO);
        due("STATE", number(readme, "\\| `STATE` \\| (-\\d+) \\|"), TouchReign.STATE);
        due("FULL", number(readme, "\\| `FULL` \\| (-\\d+) \\|"), TouchReign.FULL);
        due("LOST", readme.contains("`LOST` (" + TouchReign.LOST + ")"), true);
    }

    private static int number(String text, String pattern) {
        Matcher m = Pattern.compile(pattern).matcher(text);
        return m.find() ? Integer.parseInt(m.group(1)) : 0;
    }

    // ---- the examples

    private static long answer(String text) throws ReflectiveOperationException {
        long sum = 0;
        for (String part : text.split(" \\+ ")) {
            boolean named = Character.isUpperCase(part.charAt(0));
            sum += named ? ((Number) TouchReign.class.getField(part).get(null)).longValue() : Long.parseLong(part);
        }
        return sum;
    }

    private static Object argument(String text) {
        if (text.equals("true") || text.equals("false")) return text.equals("true");
        if (text.startsWith("'")) return (int) text.charAt(1);
        return Integer.parseInt(text);
    }

    private static Method method(String name) {
        for (Method m : TouchReign.class.getDeclaredMethods()) if (m.getName().equals(name)) return m;
        throw new IllegalStateException("no such call: " + name);
    }

    private static long called(TouchReign x, String name, String arguments) throws ReflectiveOperationException {
        String[] texts = arguments.isEmpty() ? new String[0] : arguments.split(", ");
        Object[] values = new Object[texts.length];
        for (int i = 0; i < texts.length; i++) values[i] = argument(texts[i]);
        return ((Number) method(name).invoke(x, values)).longValue();
    }

    private static void example(String block, Set<String> shown) throws ReflectiveOperationException {
        TouchReign x = null;
        int calls = 0;
        for (String line : block.split("\n")) {
            Matcher saying = SAYING.matcher(line);
            Matcher call = CALL.matcher(line);
            if (line.equals("TouchReign x = new TouchReign();")) {
                x = new TouchReign();
            } else if (saying.matches()) {
                for (char sign : saying.group(1).toCharArray()) x.say(sign);
                calls += saying.group(1).length();
            } else if (call.matches()) {
                due(line, called(x, call.group(1), call.group(2)), answer(call.group(3)));
                shown.add(call.group(1));
                calls++;
            } else {
                due(line, "not read", "a call with its answer");
            }
        }
        due("calls of an example", calls > 0 && calls <= CALLS_OF_AN_OBJECT, true);
    }

    private static void examples(String readme) throws ReflectiveOperationException {
        Set<String> shown = new TreeSet<>();
        Matcher m = BLOCK.matcher(readme);
        while (m.find()) example(m.group(1), shown);
        Set<String> names = new TreeSet<>();
        for (Method method : TouchReign.class.getMethods()) {
            if (method.getDeclaringClass() == TouchReign.class) names.add(method.getName());
        }
        due("calls in the examples", shown, names);
    }

    // those under ../shared/tests may become more at any time, so the page does not name them
    private static void tests(String readme) throws java.io.IOException {
        try (Stream<Path> files = Files.list(Path.of("src/test/java"))) {
            files.map(file -> file.getFileName().toString()).forEach(name ->
                due("names " + name, readme.contains("- `" + name.replace(".java", "") + "`: "), true));
        }
    }

    public static void main(String[] args) throws Exception {
        String document = Files.readString(Path.of("../shared/DOC.md"));
        String readme = Files.readString(Path.of("README.md"));
        calls(document, readme);
        constants(readme);
        examples(readme);
        tests(readme);
        System.out.println(wrong == 0 ? "README.md tells what is so" : wrong + " things in README.md are not so");
        if (wrong != 0) System.exit(1);
    }
}
