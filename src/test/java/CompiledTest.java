import java.io.PrintWriter;
import java.io.StringWriter;
import java.net.URISyntaxException;
import java.util.ArrayList;
import java.util.List;
import java.util.Map;
import java.util.Set;
import java.util.TreeMap;
import java.util.TreeSet;
import java.util.regex.Matcher;
import java.util.regex.Pattern;
import java.util.spi.ToolProvider;

/** What LANGUAGE.md says of calls, of new objects and of the library, seen in the compiled class, as javap tells it. */
public final class CompiledTest {
    private static final int DEEPEST = 8;
    private static final Pattern CLASS = Pattern.compile("(?:[a-z]+ )*class (\\S+) .*\\{");
    private static final Pattern METHOD = Pattern.compile("  (?:\\S+ )*([\\w$]+)\\(.*\\);");
    private static final Pattern INSTRUCTION = Pattern.compile(" +\\d+: (\\w+)(.*)");
    private static final Pattern CALLED = Pattern.compile(".*// (?:Interface)?Method (?:(\\S+)\\.)?(\"<init>\"|\\w+):.*");
    private static final Set<String> LIBRARY = Set.of("java/lang/Object.<init>", "java/lang/Math.abs",
        "java/lang/Math.min", "java/lang/Integer.bitCount");
    private static final Set<String> MAKING = Set.of("new", "newarray", "anewarray", "multianewarray");
    /** Casts, dynamic calls (lambdas, texts joined by +), throws and locks. */
    private static final Set<String> RULED_OUT = Set.of("checkcast", "instanceof", "invokedynamic", "athrow",
        "monitorenter", "monitorexit", "invokeinterface");

    private final Map<String, Set<String>> calls = new TreeMap<>();
    private final Map<String, List<String>> chains = new TreeMap<>();
    private String owner = "";
    private String method = "";

    public static void main(String[] args) throws URISyntaxException {
        CompiledTest test = new CompiledTest();
        for (String line : compiled().split("\n")) {
            test.take(line);
        }
        test.checkChains();
        Calls.finish("CompiledTest");
    }

    private static String compiled() throws URISyntaxException {
        List<String> words = new ArrayList<>(List.of("-c", "-p", "-cp",
            java.nio.file.Path.of(PatchDesk.class.getProtectionDomain().getCodeSource().getLocation().toURI()).toString()));
        words.add(PatchDesk.class.getName());
        for (Class<?> each : PatchDesk.class.getDeclaredClasses()) {
            words.add(each.getName());
        }
        StringWriter told = new StringWriter();
        ToolProvider javap = ToolProvider.findFirst("javap").orElseThrow();
        int code = javap.run(new PrintWriter(told, true), new PrintWriter(System.out, true), words.toArray(new String[0]));
        Calls.due("javap", "ends with", code, 0);
        return told.toString();
    }

    private void take(String line) {
        Matcher type = CLASS.matcher(line);
        Matcher head = METHOD.matcher(line);
        Matcher instruction = INSTRUCTION.matcher(line);
        if (type.matches()) {
            owner = type.group(1);
        } else if (head.matches()) {
            String name = head.group(1);
            method = owner + "." + (name.equals(owner) ? "<init>" : name);
            due("rule 1: one method of a name", calls.put(method, new TreeSet<>()) == null, method);
        } else if (instruction.matches()) {
            takeInstruction(instruction.group(1), instruction.group(2));
        }
    }

    private void takeInstruction(String word, String rest) {
        due("rules 2 and 6: ruled out: " + word, !RULED_OUT.contains(word), method);
        if (MAKING.contains(word)) {
            due("rule 12: objects are made in constructors alone", method.endsWith(".<init>"), method);
        }
        Matcher call = CALLED.matcher(rest);
        if (call.matches()) {
            String of = call.group(1) == null ? owner : call.group(1);
            String called = of + "." + call.group(2).replace("\"", "");
            if (of.startsWith("PatchDesk")) {
                calls.get(method).add(called);
            } else {
                due("rule 4: the library", LIBRARY.contains(called), method + " calls " + called);
            }
        }
    }

    private void checkChains() {
        due("the class has methods", calls.size() > 41, calls.keySet());
        List<String> longest = List.of();
        for (String each : calls.keySet()) {
            List<String> chain = longestFrom(each, 0);
            longest = chain.size() > longest.size() ? chain : longest;
        }
        due("rule 11: the deepest chain of calls", longest.size() <= DEEPEST, longest);
        System.out.println("CompiledTest: the deepest chain of calls is " + longest);
    }

    private List<String> longestFrom(String name, int depth) {
        due("rule 8: no recursion", depth <= calls.size(), name);
        due("a method of the class", calls.containsKey(name), name);
        if (depth > calls.size() || chains.containsKey(name) || !calls.containsKey(name)) {
            return chains.getOrDefault(name, List.of());
        }
        List<String> longest = List.of();
        for (String called : calls.get(name)) {
            List<String> chain = longestFrom(called, depth + 1);
            longest = chain.size() > longest.size() ? chain : longest;
        }
        List<String> whole = new ArrayList<>(List.of(name));
        whole.addAll(longest);
        chains.put(name, whole);
        return whole;
    }

    private static void due(String rule, boolean kept, Object told) {
        Calls.checked++;
        if (!kept) {
            Calls.wrong++;
            System.out.println(rule + ": " + told);
        }
    }
}
