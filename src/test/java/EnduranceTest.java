import java.lang.management.ManagementFactory;
import java.lang.reflect.Array;
import java.lang.reflect.Field;
import java.lang.reflect.Modifier;
import java.util.ArrayDeque;
import java.util.Collections;
import java.util.Deque;
import java.util.IdentityHashMap;
import java.util.Set;

/**
 * What LANGUAGE.md asks of all calls: none throws, for any arguments in any state and after the 512th call too, none
 * makes an object, and the same calls give the same answers whatever other objects do.
 */
public final class EnduranceTest {
    private static final int METHODS = 41, DESKS = 60, CALLS = 10000;
    private static final int MOST_OBJECTS = 300, MOST_ELEMENTS = 7000;
    private static final int[] SMALL = {0, 0, 0, 1, 1, 2, 3, 4, 5, 6, 7, 8, 11, 12};
    private static final int[] EDGES = {-1, -2, 9, 12, 13, 14, 15, 17, 18, 21, 22, 23, 24, 25, 48, 59, 61, 80, 97, 255,
        256, Integer.MAX_VALUE, Integer.MAX_VALUE - 1, Integer.MIN_VALUE, Integer.MIN_VALUE + 1};

    /** An int as an object fits into all of these. */
    private static final int[] KINDS = {4, 5, 12, 11, 7};
    private static final int INTEGER_WAY = 12;
    private static final String TEXT = ";0.1i2.0;2m-1=7";

    private final PatchDesk desk;
    private long state;

    private EnduranceTest(long seed, PatchDesk desk) {
        this.state = seed;
        this.desk = desk;
    }

    public static void main(String[] args) throws IllegalAccessException {
        sameAnswers();
        noNewObjects();
        smallEnough();
        Calls.finish("EnduranceTest");
    }

    /** The two objects of a seed take turns, each after another object; what a call throws ends the test. */
    private static void sameAnswers() {
        for (int seed = 0; seed < DESKS; seed++) {
            EnduranceTest one = new EnduranceTest(seed, new PatchDesk());
            EnduranceTest between = new EnduranceTest(~seed, new PatchDesk());
            EnduranceTest other = new EnduranceTest(seed, new PatchDesk());
            for (int n = 0; n < CALLS; n++) {
                long due = one.callAny();
                between.callAny();
                Calls.due("seed " + seed, "call " + n, other.callAny(), due);
            }
            Calls.due("seed " + seed, "digest()", other.desk.digest(), one.desk.digest());
        }
    }

    private static void noNewObjects() {
        com.sun.management.ThreadMXBean bean = (com.sun.management.ThreadMXBean) ManagementFactory.getThreadMXBean();
        if (!bean.isThreadAllocatedMemorySupported()) {
            System.out.println("EnduranceTest: this machine does not count what a thread makes");
            return;
        }
        bean.setThreadAllocatedMemoryEnabled(true);
        EnduranceTest one = new EnduranceTest(1, new PatchDesk());
        long thread = Thread.currentThread().getId();
        // The first rounds load what the bean itself needs.
        for (int round = 0; round < 3; round++) {
            long before = bean.getThreadAllocatedBytes(thread);
            for (int n = 0; n < CALLS; n++) {
                one.callAny();
            }
            long made = bean.getThreadAllocatedBytes(thread) - before;
            if (round == 2) {
                Calls.due("rule 12", "bytes made by " + CALLS + " calls", made, 0);
            }
        }
    }

    private static void smallEnough() throws IllegalAccessException {
        Set<Object> seen = Collections.newSetFromMap(new IdentityHashMap<>());
        Deque<Object> open = new ArrayDeque<>();
        open.add(new PatchDesk());
        int elements = 0;
        while (!open.isEmpty()) {
            Object each = open.remove();
            if (seen.add(each)) {
                elements += each.getClass().isArray() ? openArray(each, open) : openFields(each, open);
            }
        }
        Calls.due("rule 12", "objects and arrays above the most", Math.max(seen.size(), MOST_OBJECTS), MOST_OBJECTS);
        Calls.due("rule 12", "fields and elements above the most", Math.max(elements, MOST_ELEMENTS), MOST_ELEMENTS);
        System.out.println("EnduranceTest: an object is " + seen.size() + " objects and arrays with " + elements
            + " fields and elements");
    }

    private static int openArray(Object array, Deque<Object> open) {
        int length = Array.getLength(array);
        for (int n = 0; n < length && !array.getClass().getComponentType().isPrimitive(); n++) {
            open.add(Array.get(array, n));
        }
        return length;
    }

    private static int openFields(Object each, Deque<Object> open) throws IllegalAccessException {
        int fields = 0;
        for (Field field : each.getClass().getDeclaredFields()) {
            if (!Modifier.isStatic(field.getModifiers())) {
                fields++;
                field.setAccessible(true);
                if (!field.getType().isPrimitive()) {
                    open.add(field.get(each));
                }
            }
        }
        return fields;
    }

    /** Knuth's 64-bit generator: a library's Random would be free to make objects. */
    private int random(int bound) {
        state = state * 6364136223846793005L + 1442695040888963407L;
        return (int) ((state >>> 33) % bound);
    }

    private int any() {
        switch (random(16)) {
            case 0:
                return EDGES[random(EDGES.length)];
            case 1:
                return random(Integer.MAX_VALUE) * 2 + random(2);
            default:
                return SMALL[random(SMALL.length)];
        }
    }

    /** Every other call is one that fills the object to its limits; the others are any, with any arguments. */
    private long callAny() {
        int s = random(5);
        switch (random(16)) {
            case 0:
                return desk.row(s, KINDS[s], 12);
            case 1:
                return desk.change(s, INTEGER_WAY, random(3), random(5));
            case 2:
            case 3:
                return desk.move(0, random(3), 8, s, random(3));
            case 4:
            case 5:
            case 6:
                return layOrDrop();
            case 7:
                return readOrWipe();
            default:
                return call(random(METHODS), any(), any(), any(), any(), any());
        }
    }

    private int layOrDrop() {
        int answer = desk.lay();
        for (int n = 0; n < 6 && answer < 0; n++) {
            desk.drop();
        }
        return answer;
    }

    private int readOrWipe() {
        int changes = random(8);
        for (int n = 0; n < changes; n++) {
            for (int at = n == 0 ? 1 : 0; at < TEXT.length(); at++) {
                desk.type(TEXT.charAt(at));
            }
        }
        int answer = random(4) == 0 ? desk.type(any()) : desk.read();
        return answer < 0 ? desk.wipe() : answer;
    }

    private long call(int method, int a, int b, int c, int d, int e) {
        switch (method) {
            case 0: return desk.row(a, b, c);
            case 1: return desk.lose(a);
            case 2: return desk.kind(a);
            case 3: return desk.size(a);
            case 4: return desk.get(a, b, c);
            case 5: return desk.what(a, b);
            case 6: return desk.bits(a, b);
            case 7: return desk.changed(a);
            case 8: return desk.change(a, b, c, d);
            case 9: return desk.move(a, b, c, d, e);
            case 10: return desk.drop();
            case 11: return desk.preview(a);
            case 12: return desk.type(a);
            case 13: return random(9) == 0 ? desk.wipe() : desk.flaw();
            case 14: return desk.flaw();
            case 15: return desk.read();
            case 16: return desk.text(a, b);
            case 17: return desk.lay();
            case 18: return desk.undo();
            case 19: return desk.redo();
            case 20: return desk.again(a);
            case 21: return desk.out(a);
            case 22: return desk.lift(a);
            case 23: return desk.swap(a);
            case 24: return desk.with(a);
            case 25: return desk.hangs(a);
            case 26: return desk.without(a, b, c);
            case 27: return desk.trace(a, b, c);
            case 28: return desk.dead(a);
            case 29: return random(20) == 0 ? desk.prune() : desk.text(24, a);
            case 30: return desk.order(a);
            case 31: return desk.blame(a, b);
            case 32: return desk.since(a, b);
            case 33: return random(12) == 0 ? desk.settle() : desk.keep();
            case 34: return desk.keep();
            case 35: return desk.go(a);
            case 36: return desk.between(a, b);
            case 37: return desk.fault(a);
            case 38: return desk.met(a, b);
            case 39: return desk.count(a);
            default: return desk.digest();
        }
    }
}
