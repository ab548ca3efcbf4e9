import java.util.HashSet;
import java.util.List;
import java.util.Set;
import java.util.TreeSet;

/**
 * Boundary cases: a line "# 2 row: n is 13" names one after its promise, the lines below it are its calls on a new
 * object, written as in Calls; "times 24: change(0, 4, 0, 1); lay()" makes calls again and again and asks no answer.
 * Around every call that answers an error, and around every call that only tells something, the digests are compared:
 * nothing may have changed but what the document lets such a call change.
 */
final class Cases {
    private static final int MOST_CALLS = 512, MET_ROWS = 18, MET_ANSWERS = 6, MET = MET_ROWS * MET_ANSWERS;
    private static final List<String> PROMISES = List.of(("PatchDesk row lose kind size get what bits changed change move "
        + "drop preview type wipe flaw read text lay undo redo again out lift swap with hangs without trace dead prune "
        + "order blame since settle keep go between fault met count digest").split(" "));
    private static final Set<String> READERS = Set.of("kind", "size", "what", "bits", "changed", "preview", "flaw", "text",
        "hangs", "without", "trace", "dead", "order", "blame", "since", "between", "fault", "met", "count", "digest");
    private static final Set<String> SETTING_THE_FAULT = Set.of("lay", "redo", "again", "out", "lift", "swap", "go");
    private static final Set<String> LONGS = Set.of("get", "bits", "without", "trace", "digest");
    private static final Set<String> NAMES = new HashSet<>();
    private static final Set<Integer> SEEN = new TreeSet<>();

    private final PatchDesk desk = new PatchDesk();
    private final String name;
    private int made = 0;

    private Cases(String name) {
        this.name = name;
        noteName(name);
    }

    private Cases() {
        this.name = "the calls before";
    }

    static void run(String text) {
        Cases one = null;
        for (String line : text.split("\n")) {
            if (line.startsWith("# ")) {
                close(one);
                one = new Cases(line.substring(2).trim());
            } else if (one != null) {
                one.make(line.trim());
            }
        }
        close(one);
    }

    /** An object after these calls, whose answers must be as they say. */
    static PatchDesk deskAfter(String calls) {
        Cases one = new Cases();
        for (String line : calls.split("\n")) {
            one.make(line.trim());
        }
        return one.desk;
    }

    /** Every promise of the range must have been named by a case. */
    static void finish(String test, int first, int last) {
        for (int promise = first; promise <= last; promise++) {
            Calls.due(test, "cases of promise " + promise, SEEN.contains(promise) ? 1 : 0, 1);
        }
        System.out.println(test + ": " + NAMES.size() + " cases");
        Calls.finish(test);
    }

    /** A name that a test has which isn't written as text. */
    static void noteName(String name) {
        String[] parts = name.split("[ :]", 3);
        int promise = Integer.parseInt(parts[0]);
        Calls.due(name, "the promise's name", promise >= 1 && promise <= 42
            && PROMISES.get(promise - 1).equals(parts[1]) ? 1 : 0, 1);
        Calls.due(name, "a name of its own", NAMES.add(name) ? 1 : 0, 1);
        SEEN.add(promise);
    }

    private static void close(Cases one) {
        if (one != null) {
            Calls.due(one.name, "calls on one object at most 512", Math.max(one.made, MOST_CALLS), MOST_CALLS);
        }
    }

    private void make(String line) {
        if (line.startsWith("type ")) {
            Calls.typeAll(desk, line.substring(5));
            made += line.length() - 5;
        } else if (line.startsWith("times ")) {
            int colon = line.indexOf(':');
            for (int n = Integer.parseInt(line.substring(6, colon)); n > 0; n--) {
                for (String call : line.substring(colon + 1).split(";")) {
                    tell(call.trim());
                }
            }
        } else {
            for (String call : line.split(";")) {
                if (!call.isBlank()) {
                    check(call.trim());
                }
            }
        }
    }

    private long tell(String call) {
        made++;
        return Calls.answer(desk, call);
    }

    private void check(String line) {
        int end = line.lastIndexOf(" = ");
        String call = line.substring(0, end);
        String method = call.substring(0, call.indexOf('('));
        long want = Calls.value(line.substring(end + 3));
        if (method.equals("get")) {
            checkGet(call, want);
        } else if (finding(method, want) > 0 && SETTING_THE_FAULT.contains(method)) {
            boolean counted = method.equals("lay");
            long before = digestWithout(counted, finding(method, want));
            Calls.due(name, call, tell(call), want);
            Calls.due(name, call + ", state", digestWithout(counted, finding(method, want)), before);
        } else if (finding(method, want) >= 0 || READERS.contains(method)) {
            long before = tell("digest()");
            Calls.due(name, call, tell(call), want);
            Calls.due(name, call + ", state", tell("digest()"), before);
        } else {
            Calls.due(name, call, tell(call), want);
        }
    }

    /** get() changes one count of met() by 1, and nothing else; if it answers BAD, nothing at all. */
    private void checkGet(String call, long want) {
        long before = tell("digest()");
        Calls.due(name, call, tell(call), want);
        int way = (int) Calls.value(call.split(",")[1]);
        int answer = Math.max(finding("get", want), 0) % 6;
        boolean bad = want == Long.MIN_VALUE - PatchDesk.BAD;
        Calls.due(name, call + ", state", tell("digest()") - before, bad ? 0 : weight(MET - 1 - way * MET_ANSWERS - answer));
    }

    /** -1 for an answer that is no error, 0 for BAD, NOT and FULL, else the finding. */
    private static int finding(String method, long answer) {
        boolean isLong = LONGS.contains(method);
        if (isLong && answer >= Long.MIN_VALUE + 20) {
            return -1;
        }
        long error = isLong ? Long.MIN_VALUE - answer : answer;
        if (error >= -17 && error <= -11) {
            return (int) (-10 - error);
        }
        return error >= PatchDesk.FULL && error <= PatchDesk.BAD ? 0 : -1;
    }

    /** The digest less what the fault and, if asked, the counts of met() for 0 and this finding have added to it. */
    private long digestWithout(boolean met, int finding) {
        long h = tell("digest()");
        for (int what = 0; what <= 2; what++) {
            h -= weight(MET + 2 - what) * tell("fault(" + what + ")");
        }
        for (int row = 0; met && row < MET_ROWS; row++) {
            h -= weight(MET - 1 - row * MET_ANSWERS) * tell("met(" + row + ", 0)");
            h -= weight(MET - 1 - row * MET_ANSWERS - finding) * tell("met(" + row + ", " + finding + ")");
        }
        return h;
    }

    private static long weight(int places) {
        long product = 1;
        for (int n = 0; n < places; n++) {
            product *= 31;
        }
        return product;
    }
}
