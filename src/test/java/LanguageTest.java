import java.io.IOException;
import java.lang.reflect.Executable;
import java.lang.reflect.Field;
import java.lang.reflect.Member;
import java.lang.reflect.Method;
import java.lang.reflect.Modifier;
import java.nio.file.Files;
import java.nio.file.Path;
import java.util.ArrayList;
import java.util.Arrays;
import java.util.List;
import java.util.Set;
import java.util.TreeSet;
import java.util.regex.Matcher;
import java.util.regex.Pattern;
import java.util.stream.Collectors;

/** The class's face, and those rules of LANGUAGE.md that can be seen from outside; run from the project's folder. */
public final class LanguageTest {
    private static final String FACE = """
        int row(int, int, int)
        int lose(int)
        int kind(int)
        int size(int)
        long get(int, int, int)
        int what(int, int)
        long bits(int, int)
        int changed(int)
        int change(int, int, int, int)
        int move(int, int, int, int, int)
        int drop()
        int preview(int)
        int type(int)
        int wipe()
        int flaw()
        int read()
        int text(int, int)
        int lay()
        int undo()
        int redo()
        int again(int)
        int out(int)
        int lift(int)
        int swap(int)
        int with(int)
        int hangs(int)
        long without(int, int, int)
        long trace(int, int, int)
        int dead(int)
        int prune()
        int order(int)
        int blame(int, int)
        int since(int, int)
        int settle()
        int keep()
        int go(int)
        int between(int, int)
        int fault(int)
        int met(int, int)
        int count(int)
        long digest()
        """;
    private static final String WORDS_RULED_OUT = "\\b(throw|throws|try|catch|synchronized|assert|package|import|volatile"
        + "|instanceof|Object|Float|Double|Exception|native|transient|var|record|equals|hashCode|toString)\\b|->|::|Exact\\b";
    private static final Set<String> LIBRARY_CALLS = Set.of("Math.abs", "Math.min", "Integer.bitCount");

    public static void main(String[] args) throws IOException {
        checkFace();
        List<Class<?>> classes = new ArrayList<>(List.of(PatchDesk.class.getDeclaredClasses()));
        classes.add(PatchDesk.class);
        due("rule 11: classes", classes.size() <= 12, classes);
        for (Class<?> each : classes) {
            checkClass(each);
        }
        checkSource(Files.readString(Path.of("src/main/java/PatchDesk.java")));
        Calls.finish("LanguageTest");
    }

    private static void due(String rule, boolean kept, Object told) {
        Calls.checked++;
        if (!kept) {
            Calls.wrong++;
            System.out.println(rule + ": " + told);
        }
    }

    private static void checkFace() {
        Set<String> found = new TreeSet<>();
        for (Method method : PatchDesk.class.getDeclaredMethods()) {
            if (Modifier.isPublic(method.getModifiers())) {
                found.add(method.getReturnType() + " " + method.getName() + Arrays.stream(method.getParameterTypes())
                    .map(Class::getName).collect(Collectors.joining(", ", "(", ")")));
            }
        }
        due("the face", found.equals(new TreeSet<>(FACE.lines().toList())), found);
        due("the class", Modifier.isPublic(PatchDesk.class.getModifiers())
            && Modifier.isFinal(PatchDesk.class.getModifiers()), PatchDesk.class);
        due("the constructor", PatchDesk.class.getDeclaredConstructors().length == 1
            && PatchDesk.class.getConstructors().length == 1
            && PatchDesk.class.getConstructors()[0].getParameterCount() == 0, "not as the document has it");
        Set<String> constants = Arrays.stream(PatchDesk.class.getFields()).map(Field::getName)
            .collect(Collectors.toCollection(TreeSet::new));
        due("the constants", constants.equals(new TreeSet<>(List.of("NONE", "BAD", "NOT", "FULL"))), constants);
        due("the constants", PatchDesk.NONE == -1 && PatchDesk.BAD == -2 && PatchDesk.NOT == -3 && PatchDesk.FULL == -4,
            "other values");
    }

    private static void checkClass(Class<?> each) {
        boolean outer = each == PatchDesk.class;
        due("rule 2: a class inside is static", outer || Modifier.isStatic(each.getModifiers()), each);
        due("rule 1: a class inside is not public", outer || !Modifier.isPublic(each.getModifiers()), each);
        List<Member> members = new ArrayList<>(List.of(each.getDeclaredMethods()));
        members.addAll(List.of(each.getDeclaredFields()));
        for (Member member : members) {
            due("rule 1: no other member that is not private", !outer || member.isSynthetic()
                || (member.getModifiers() & (Modifier.PUBLIC | Modifier.PRIVATE)) != 0, member);
        }
        Set<String> publicNames = FACE.lines().map(line -> line.replaceAll(".* (\\w+)\\(.*", "$1")).collect(Collectors.toSet());
        for (Method method : each.getDeclaredMethods()) {
            due("rule 1: no other method bears a public one's name",
                outer && Modifier.isPublic(method.getModifiers()) || !publicNames.contains(method.getName()), method);
        }
        for (Executable code : each.getDeclaredMethods()) {
            due("rule 11: parameters", code.getParameterCount() <= 7, code);
        }
        int fields = 0;
        for (Field field : each.getDeclaredFields()) {
            boolean fixed = Modifier.isStatic(field.getModifiers());
            fields += fixed ? 0 : 1;
            due("rule 5: static fields are final", !fixed || Modifier.isFinal(field.getModifiers()), field);
        }
        due("rule 11: fields", fields <= 20, each + " has " + fields);
    }

    private static void checkSource(String source) {
        String code = source.replaceAll("(?s)/\\*.*?\\*/", " ").replaceAll("//[^\n]*", " ");
        Matcher ruledOut = Pattern.compile(WORDS_RULED_OUT).matcher(code);
        while (ruledOut.find()) {
            due("rules 2, 4, 6: ruled out", false, ruledOut.group());
        }
        Matcher calls = Pattern.compile("\\b(Math|Integer|Long|System|Arrays|String|Character|Byte|Short)\\.(\\w+)").matcher(code);
        while (calls.find()) {
            due("rule 4: the library", LIBRARY_CALLS.contains(calls.group()), calls.group());
        }
        due("comments and code have no tabs and plain signs", source.chars().allMatch(c -> c == '\n' || c >= 32 && c < 127), "");
        checkLengths(source.split("\n"));
    }

    /** Methods stand at one or two levels of indentation and end with a brace at the same one. */
    private static void checkLengths(String[] lines) {
        for (int at = 0; at < lines.length; at++) {
            String indent = lines[at].replaceAll("\\S.*", "");
            boolean method = lines[at].matches(" {4}( {4})?[\\w\\[\\]. ]+\\(.*\\) \\{");
            if (method && !lines[at].matches(" *(if|for|while|switch)\\b.*")) {
                int end = at;
                while (!lines[end].equals(indent + "}")) {
                    end++;
                }
                due("rule 11: a method's length", end - at + 1 <= 60, lines[at]);
            }
        }
    }
}
