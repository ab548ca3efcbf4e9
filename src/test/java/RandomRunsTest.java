import java.lang.reflect.Method;
import java.util.ArrayList;
import java.util.Arrays;
import java.util.List;
import java.util.Random;
import java.util.TreeMap;

/** Random runs of calls, the same ones each time, on PatchDesk and on Oracle: every answer must be the same. */
public final class RandomRunsTest {
    private static final int RUNS = 1200, CALLS_PER_RUN = 512;
    private static final int[] NUMBERS = {0, 1, -1, 2, 3, 7, -8, 77, 78, 127, 128, 255, 256, 32767, 32768, 65535, 65536,
        16777217, 33554435, -16777219, 2147483600, Integer.MAX_VALUE, Integer.MIN_VALUE, -2147483647};
    private static final int[] EDGES = {-1, -2, 24, 25, 6, 7, 12, 13, 15, 22, 256, Integer.MAX_VALUE, Integer.MIN_VALUE};
    private static final String[] OFTEN = {"change", "change", "change", "move", "move", "move", "lay", "lay", "get",
        "get", "undo", "redo", "again", "out", "lift", "swap", "preview", "drop", "without", "trace", "between", "go",
        "keep", "count", "since", "blame", "hangs", "dead", "change", "move", "lay", "build",
        "build", "build"};
    private static final String[] SELDOM = {"row", "lose", "kind", "size", "what", "bits", "changed", "type", "wipe",
        "text", "with", "prune", "order", "fault", "digest", "typeText", "read", "flaw", "met",
        "fill"};

    private final Random random;
    private final PatchDesk desk = new PatchDesk();
    private final Oracle oracle = new Oracle();
    private final List<String> log = new ArrayList<>();
    private static final TreeMap<String, int[]> ANSWERS = new TreeMap<>();

    private RandomRunsTest(long seed) {
        random = new Random(seed);
    }

    public static void main(String[] args) {
        for (int run = 0; run < RUNS && Calls.wrong == 0; run++) {
            new RandomRunsTest(run).run();
        }
        for (String name : ANSWERS.keySet()) {
            if (args.length > 0) {
                System.out.println(name + ": " + Arrays.toString(ANSWERS.get(name)));
            }
        }
        Calls.finish("RandomRunsTest");
    }

    private void run() {
        // Few slots and elements, so that patches meet each other; some runs with all kinds, some with mixed objects.
        int style = random.nextInt(3);
        for (int s = 0; s < 6; s++) {
            if (random.nextInt(12) > 0) {
                call("row", s, kindFor(style), 1 + random.nextInt(style == 0 ? 12 : 3));
            }
        }
        boolean settles = random.nextInt(3) == 0;
        while (log.size() < CALLS_PER_RUN - 1 && Calls.wrong == 0) {
            step(settles);
        }
        call("digest");
    }

    private int kindFor(int style) {
        switch (style) {
            case 0: return random.nextInt(15);
            case 1: return 1 + random.nextInt(7);
            default: return new int[] {12, 12, 12, 11, 8, 9, 10, 4, 5, 7}[random.nextInt(10)];
        }
    }

    private void step(boolean settles) {
        int dice = random.nextInt(100);
        if (dice < 78) {
            callRandom(OFTEN[random.nextInt(OFTEN.length)]);
        } else if (dice < 99) {
            callRandom(SELDOM[random.nextInt(SELDOM.length)]);
        } else if (settles) {
            callRandom("settle");
        }
    }

    private int slot() {
        return random.nextInt(40) == 0 ? EDGES[random.nextInt(EDGES.length)] : random.nextInt(6);
    }

    private int index() {
        return random.nextInt(30) == 0 ? EDGES[random.nextInt(EDGES.length)] : random.nextInt(random.nextInt(8) == 0 ? 13 : 2);
    }

    private int number() {
        switch (random.nextInt(4)) {
            case 0: return NUMBERS[random.nextInt(NUMBERS.length)];
            case 1: return random.nextInt();
            default: return random.nextInt(4);
        }
    }

    private int upTo(int n) {
        return random.nextInt(25) == 0 ? EDGES[random.nextInt(EDGES.length)] : random.nextInt(Math.max(1, n));
    }

    private int patch() {
        return upTo(oracle.count(0));
    }

    private int writingWay(int s) {
        for (int tries = 0; tries < 30 && random.nextInt(12) > 0; tries++) {
            int way = random.nextInt(22);
            Oracle small = new Oracle();
            if (small.row(0, oracle.kind(s), 1) >= 0 && small.change(0, way, 0, 0) > 0 && small.preview(0) == 0) {
                return way;
            }
        }
        return upTo(22);
    }

    private int readingWay(int s, int t) {
        for (int tries = 0; tries < 8 && random.nextInt(8) > 0; tries++) {
            int way = random.nextInt(9);
            Oracle small = new Oracle();
            small.row(0, oracle.kind(s), 1);
            small.row(1, oracle.kind(t), 1);
            small.move(0, 0, way, 1, 0);
            if (small.preview(0) == 0) {
                return way;
            }
        }
        return random.nextInt(3) == 0 ? upTo(9) : 8;
    }

    private void callRandom(String name) {
        int s = slot();
        int t = slot();
        switch (name) {
            case "row": call(name, s, random.nextInt(10) == 0 ? EDGES[random.nextInt(EDGES.length)] : random.nextInt(15), random.nextInt(16) - 2); break;
            case "lose": if (random.nextInt(4) == 0) call(name, s); break;
            case "kind": case "size": case "changed": call(name, s); break;
            case "get": call(name, s, random.nextInt(2) == 0 ? 8 : readingWay(s, t), index()); break;
            case "what": case "bits": case "blame": case "since": call(name, s, index()); break;
            case "change": call(name, s, writingWay(s), index(), number()); dropUnfit(); break;
            case "move": call(name, s, index(), readingWay(s, t), t, index()); dropUnfit(); break;
            case "preview": call(name, upTo(oracle.count(2))); break;
            case "type": if (random.nextInt(3) == 0) call(name, random.nextInt(6) == 0 ? random.nextInt(258) - 1 : "0123456789=;.-abghiuv".charAt(random.nextInt(21))); break;
            case "build": build(); break;
            case "typeText": typeText(); break;
            case "fill": fill(); break;
            case "lay": if (oracle.count(2) > random.nextInt(3) || random.nextInt(9) == 0) lay(); break;
            case "text": text(random.nextInt(3) == 0 ? 24 : patch()); break;
            case "undo": if (random.nextInt(2) == 0) call(name); break;
            case "redo": if (oracle.count(3) > 0 || random.nextInt(9) == 0) call(name); break;
            case "out": if (random.nextInt(2) == 0) call(name, patch()); break;
            case "again": case "lift": case "hangs": case "dead": call(name, patch()); break;
            case "with": if (random.nextInt(3) == 0) call(name, patch()); break;
            case "swap": case "order": call(name, upTo(oracle.count(1) + 1)); break;
            case "without": call(name, patch(), s, index()); break;
            case "trace": call(name, patch(), upTo(3), upTo(2)); break;
            case "prune": if (random.nextInt(6) == 0) call(name); break;
            case "keep": if (random.nextInt(3) == 0) call(name); break;
            case "go": if (random.nextInt(2) == 0) call(name, upTo(oracle.count(4))); break;
            case "between": call(name, upTo(oracle.count(4)), upTo(oracle.count(4))); break;
            case "fault": call(name, upTo(3)); break;
            case "met": call(name, upTo(18), upTo(6)); break;
            case "count": call(name, upTo(9)); break;
            default: call(name);
        }
    }

    /** Most changes that would keep a draft from becoming a patch go at once, so that patches come about. */
    private void dropUnfit() {
        int last = oracle.count(2) - 1;
        if (oracle.preview(last) > 0 && random.nextInt(14) > 0) {
            call("drop");
        }
    }

    private void lay() {
        call("lay");
        while (oracle.count(2) > 0 && log.size() < CALLS_PER_RUN - 1 && random.nextInt(8) > 0) {
            call("drop");
        }
    }

    private void build() {
        for (int n = random.nextInt(5); n >= 0 && log.size() < CALLS_PER_RUN - 5; n--) {
            callRandom(random.nextBoolean() ? "move" : "change");
        }
        callRandom("lay");
    }

    private void text(int p) {
        call("text", p, PatchDesk.NONE);
        call("text", p, upTo(oracle.text(p, PatchDesk.NONE) + 1));
    }

    private void fill() {
        boolean wanted = random.nextInt(30) == 0;
        for (int n = 0; wanted && n < 82 && log.size() < CALLS_PER_RUN - 3; n++) {
            call("type", "2v4=7;".charAt(n % 6));
        }
    }

    private void typeText() {
        StringBuilder text = new StringBuilder();
        if (random.nextInt(10) > 0) {
            call("wipe");
        }
        for (int n = random.nextInt(3); n >= 0; n--) {
            int s = random.nextInt(6);
            int t = random.nextInt(6);
            text.append(random.nextInt(2) == 0
                ? new Oracle.Change(false, 0, 0, writingWay(t), t, index(), number()).text()
                : new Oracle.Change(true, s, index(), readingWay(s, t), t, index(), 0).text());
            text.append(n > 0 ? ";" : "");
        }
        if (random.nextInt(4) == 0) {
            text.insert(random.nextInt(text.length() + 1), "0123456789=;.-abiv".charAt(random.nextInt(18)));
        }
        for (int n = 0; n < text.length() && log.size() < CALLS_PER_RUN - 3; n++) {
            call("type", text.charAt(n));
        }
        call("flaw");
        call(random.nextInt(5) > 0 ? "read" : "wipe");
    }

    private void call(String name, int... args) {
        Object[] boxed = Arrays.stream(args).boxed().toArray();
        String call = name + Arrays.toString(args).replace('[', '(').replace(']', ')');
        long due = Calls.invoke(oracle, methodOf(Oracle.class, name), boxed);
        long got = Calls.invoke(desk, methodOf(PatchDesk.class, name), boxed);
        log.add(call + " = " + due);
        int error = due >= 0 ? 0 : (int) (due < Integer.MIN_VALUE ? due - Long.MIN_VALUE : -due);
        ANSWERS.computeIfAbsent(name, n -> new int[19])[error > 17 || error < 0 ? 18 : error]++;
        Calls.due("random run", call, got, due);
        if (got != due) {
            System.out.println(String.join("; ", log));
        }
    }

    private static final java.util.Map<String, Method> FOUND = new java.util.HashMap<>();

    private static Method methodOf(Class<?> owner, String name) {
        return FOUND.computeIfAbsent(owner.getName() + "." + name, key -> Arrays.stream(owner.getDeclaredMethods())
            .filter(m -> m.getName().equals(name) && java.lang.reflect.Modifier.isPublic(m.getModifiers())).findFirst().orElseThrow());
    }
}
