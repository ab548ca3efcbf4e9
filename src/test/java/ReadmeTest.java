import java.io.File;
import java.io.IOException;
import java.lang.reflect.Method;
import java.lang.reflect.Modifier;
import java.nio.file.Files;
import java.nio.file.Path;
import java.util.Set;
import java.util.TreeSet;
import java.util.regex.Matcher;
import java.util.regex.Pattern;

/** What README.md says of calls, methods, tests and classes is so; run from the project's folder. */
public final class ReadmeTest {
    private static final Pattern EXAMPLE = Pattern.compile("(?s)```java\n(.*?)```");
    private static final Pattern CALL = Pattern.compile("desk\\.(\\w+\\([^)]*\\)); *// (-?\\d+)\\b.*");
    private static final Pattern METHOD = Pattern.compile("`(\\w+)\\(\\)`");
    private static final Pattern CLASS = Pattern.compile("`([A-Z]\\w*)`");
    private static final String MADE = "PatchDesk desk = new PatchDesk();";

    public static void main(String[] args) throws IOException {
        String page = Files.readString(Path.of("README.md"));
        checkExamples(page);
        same("methods named under What the methods are for", methods(),
            found(METHOD, part(page, "### What the methods are for", "### Errors")));
        String tests = part(page, "## How to run its tests", "## How it is built");
        Set<String> namedTests = found(CLASS, tests);
        namedTests.remove("PatchDesk");
        same("classes named under How to run its tests", testClasses(), namedTests);
        same("classes named under How it is built", innerClasses(),
            found(CLASS, part(page, "## How it is built", null)));
        holds(".ci/run can be run", Files.isExecutable(Path.of(".ci/run")) && tests.contains("    .ci/run\n"));
        Calls.finish("ReadmeTest");
    }

    private static void checkExamples(String page) {
        Matcher example = EXAMPLE.matcher(page);
        int examples = 0;
        while (example.find()) {
            checkExample(example.group(1).split("\n"));
            examples++;
        }
        holds("README.md has an example", examples > 0);
    }

    private static void checkExample(String[] lines) {
        PatchDesk desk = new PatchDesk();
        holds("an example begins with a new object: " + lines[0], lines[0].equals(MADE));
        for (int n = 1; n < lines.length; n++) {
            Matcher call = CALL.matcher(lines[n]);
            if (!lines[n].isBlank()) {
                holds("a call with its answer: " + lines[n], call.matches());
                Calls.due("README.md", call.group(1), Calls.answer(desk, call.group(1)), Long.parseLong(call.group(2)));
            }
        }
    }

    private static void holds(String name, boolean so) {
        Calls.due("README.md", name, so ? 1 : 0, 1);
    }

    private static void same(String name, Set<String> due, Set<String> got) {
        holds(name + ", due " + due + ", got " + got, due.equals(got));
    }

    private static String part(String page, String from, String to) {
        int start = page.indexOf(from + "\n");
        int end = to == null ? page.length() : page.indexOf(to + "\n");
        holds("the part " + from, start >= 0 && end > start);
        return page.substring(start, end);
    }

    private static Set<String> found(Pattern pattern, String text) {
        Set<String> names = new TreeSet<>();
        Matcher matcher = pattern.matcher(text);
        while (matcher.find()) {
            names.add(matcher.group(1));
        }
        return names;
    }

    private static Set<String> methods() {
        Set<String> names = new TreeSet<>();
        for (Method method : PatchDesk.class.getDeclaredMethods()) {
            if (Modifier.isPublic(method.getModifiers())) {
                names.add(method.getName());
            }
        }
        return names;
    }

    private static Set<String> innerClasses() {
        Set<String> names = new TreeSet<>();
        for (Class<?> each : PatchDesk.class.getDeclaredClasses()) {
            names.add(each.getSimpleName());
        }
        return names;
    }

    private static Set<String> testClasses() {
        Set<String> names = new TreeSet<>();
        for (String file : new File("src/test/java").list()) {
            names.add(file.replace(".java", ""));
        }
        return names;
    }
}
