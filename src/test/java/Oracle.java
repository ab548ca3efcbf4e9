import java.lang.reflect.Array;
import java.math.BigInteger;
import java.util.ArrayList;
import java.util.LinkedList;
import java.util.List;
import java.util.Objects;
import java.util.regex.Matcher;
import java.util.regex.Pattern;

/**
 * The document once more, as slowly and as near to its words as can be: real arrays, java.lang.reflect.Array and the
 * definitions themselves. RandomRunsTest holds PatchDesk against it.
 */
public final class Oracle {
    static final int NONE = -1, BAD = -2, NOT = -3, FULL = -4;

    static class Mark {
        final int number;

        Mark(int number) {
            this.number = number;
        }
    }

    static final class Seal extends Mark {
        Seal(int number) {
            super(number);
        }
    }

    record Change(boolean copy, int s, int i, int way, int t, int j, int v) {
        String text() {
            return copy ? s + "." + i + (char) ('a' + way) + t + "." + j : t + "" + (char) ('a' + way) + j + "=" + v;
        }
    }

    /** A change that was done: on which element, what stood there, and from which earlier step a copy has read. */
    record Step(int patch, int k, Change change, Object before, Object after, Step source) {
        boolean writes(int s, int i) {
            return change.t == s && change.j == i;
        }
    }

    static final class Outcome {
        Object[] things;
        final List<Step> steps = new ArrayList<>();
        final List<Object[]> after = new ArrayList<>();
        int finding = 0, patch = NONE, k = NONE;
    }

    private static final Class<?>[] COMPONENTS = {boolean.class, byte.class, char.class, short.class, int.class,
        long.class, float.class, double.class, String.class, Mark.class, Seal.class, Integer.class, Object.class};
    private static final List<Class<?>> TYPES = List.of(Boolean.class, Byte.class, Character.class, Short.class,
        Integer.class, Long.class, Float.class, Double.class, String.class, Mark.class, Seal.class);

    private Object[] bases = new Object[6];
    private final List<List<Change>> patches = new ArrayList<>();
    private List<Integer> applied = new ArrayList<>();
    private final LinkedList<Integer> undone = new LinkedList<>();
    private final List<List<Integer>> versions = new ArrayList<>();
    private final List<Change> draft = new ArrayList<>();
    private String buffer = "";
    private int[] fault = {NONE, NONE, NONE};
    private final int[][] met = new int[18][6];
    private Outcome now = play(applied);
    private Object readValue;

    // ---- values

    private static Object made(int type, int v) {
        switch (type) {
            case 0: return v % 2 != 0;
            case 1: return (byte) v;
            case 2: return (char) v;
            case 3: return (short) v;
            case 4: return v;
            case 5: return (long) v * 100000007;
            case 6: return (float) v / 8;
            case 7: return (double) v / 8;
            case 8: return "text " + (v & 2147483647) % 78;
            case 9: return new Mark(v);
            case 10: return new Seal(v);
            default: return null;
        }
    }

    private static int typeOf(Object value) {
        return value == null ? 11 : TYPES.indexOf(value.getClass());
    }

    private static long numberOf(Object value) {
        if (value instanceof Boolean b) {
            return b ? 1 : 0;
        }
        if (value instanceof Character c) {
            return c;
        }
        if (value instanceof Float || value instanceof Double) {
            return (long) (8 * ((Number) value).doubleValue());
        }
        if (value instanceof Number n) {
            return n.longValue();
        }
        if (value instanceof String s) {
            return Long.parseLong(s.substring(5));
        }
        return value instanceof Mark m ? m.number : Long.MIN_VALUE + 16;
    }

    private static boolean same(Object a, Object b) {
        return typeOf(a) == typeOf(b) && numberOf(a) == numberOf(b);
    }

    // ---- reading and writing

    private static boolean isArray(Object thing) {
        return thing != null && thing.getClass().isArray();
    }

    private static Object copied(Object thing) {
        if (!isArray(thing)) {
            return thing;
        }
        int n = Array.getLength(thing);
        Object copy = Array.newInstance(thing.getClass().getComponentType(), n);
        System.arraycopy(thing, 0, copy, 0, n);
        return copy;
    }

    private static Object[] allCopied(Object[] things) {
        Object[] copies = new Object[6];
        for (int s = 0; s < 6; s++) {
            copies[s] = copied(things[s]);
        }
        return copies;
    }

    private static Object readAs(Object array, int way, int i) {
        switch (way) {
            case 0: return Array.getBoolean(array, i);
            case 1: return Array.getByte(array, i);
            case 2: return Array.getChar(array, i);
            case 3: return Array.getShort(array, i);
            case 4: return Array.getInt(array, i);
            case 5: return Array.getLong(array, i);
            case 6: return Array.getFloat(array, i);
            case 7: return Array.getDouble(array, i);
            default: return Array.get(array, i);
        }
    }

    private static void writeAs(Object array, int way, int i, Object value) {
        switch (way) {
            case 0: Array.setBoolean(array, i, (Boolean) value); break;
            case 1: Array.setByte(array, i, (Byte) value); break;
            case 2: Array.setChar(array, i, (Character) value); break;
            case 3: Array.setShort(array, i, (Short) value); break;
            case 4: Array.setInt(array, i, (Integer) value); break;
            case 5: Array.setLong(array, i, (Long) value); break;
            case 6: Array.setFloat(array, i, (Float) value); break;
            case 7: Array.setDouble(array, i, (Double) value); break;
            default: Array.set(array, i, value);
        }
    }

    private static int placeFinding(Object thing, int i) {
        if (thing == null) {
            return 1;
        }
        if (!isArray(thing)) {
            return 2;
        }
        return i < 0 || i >= Array.getLength(thing) ? 5 : 0;
    }

    private int reading(Object thing, int way, int i) {
        int place = placeFinding(thing, i);
        if (place == 1 || place == 2) {
            return place;
        }
        Class<?> component = thing.getClass().getComponentType();
        if (way < 8 && !component.isPrimitive()) {
            return 3;
        }
        try {
            readAs(Array.newInstance(component, 1), way, 0);
        } catch (IllegalArgumentException e) {
            return 4;
        }
        if (place == 0) {
            readValue = readAs(thing, way, i);
        }
        return place;
    }

    private static int writing(Object thing, int way, int i, Object value) {
        int place = placeFinding(thing, i);
        if (place == 1 || place == 2) {
            return place;
        }
        Class<?> component = thing.getClass().getComponentType();
        if (way < 8 && !component.isPrimitive()) {
            return 3;
        }
        if (value instanceof Mark && component == Object.class) {
            return 4;
        }
        try {
            writeAs(Array.newInstance(component, 1), way, 0, value);
        } catch (IllegalArgumentException | NullPointerException e) {
            return 4;
        }
        if (place == 0) {
            writeAs(thing, way, i, value);
        }
        return place;
    }

    /** Does a change on these things, unless it has a finding; tells which. */
    private int doChange(Object[] things, Change c, boolean counted) {
        Object value;
        int way = c.way;
        if (c.copy) {
            int finding = reading(things[c.s], c.way, c.i);
            if (counted) {
                met[c.way][finding]++;
            }
            if (finding != 0) {
                return finding;
            }
            value = readValue;
            if (way == 8) {
                way = 8 + typeOf(value);
            }
        } else {
            value = made(List.of(0, 1, 2, 3, 4, 5, 6, 7, 0, 1, 2, 3, 4, 5, 6, 7, 8, 9, 10, 11, 9, 10).get(way), c.v);
        }
        int finding = writing(things[c.t], way, c.j, value);
        if (counted && way < 20) {
            met[way < 8 ? 9 + way : 17][finding]++;
        }
        return finding;
    }

    // ---- orders

    private Outcome play(List<Integer> order) {
        Outcome result = new Outcome();
        result.things = allCopied(bases);
        result.after.add(allCopied(result.things));
        for (int p : order) {
            for (int k = 0; k < patches.get(p).size(); k++) {
                Change c = patches.get(p).get(k);
                Object before = placeFinding(result.things[c.t], c.j) == 0 ? Array.get(result.things[c.t], c.j) : null;
                Step source = c.copy ? lastOn(result.steps, c.s, c.i) : null;
                int finding = doChange(result.things, c, false);
                if (finding != 0) {
                    result.finding = finding;
                    result.patch = p;
                    result.k = k;
                    return result;
                }
                result.steps.add(new Step(p, k, c, before, Array.get(result.things[c.t], c.j), source));
            }
            result.after.add(allCopied(result.things));
        }
        return result;
    }

    private static Step lastOn(List<Step> steps, int s, int i) {
        Step last = null;
        for (Step step : steps) {
            last = step.writes(s, i) ? step : last;
        }
        return last;
    }

    private int carryOut(List<Integer> order) {
        Outcome result = play(order);
        if (result.finding != 0) {
            fault = new int[] {result.patch, result.k, result.finding};
            return -10 - result.finding;
        }
        applied = new ArrayList<>(order);
        now = result;
        return 0;
    }

    private Step stepOf(Outcome outcome, int p, int k) {
        for (Step step : outcome.steps) {
            if (step.patch == p && step.k == k) {
                return step;
            }
        }
        return null;
    }

    private int rearrange(List<Integer> order) {
        Outcome before = now;
        int error = carryOut(order);
        if (error != 0) {
            return error;
        }
        undone.clear();
        int moved = 0;
        for (Step step : now.steps) {
            Step old = stepOf(before, step.patch, step.k);
            if (old != null && !same(old.after, step.after)) {
                moved++;
            }
        }
        return moved;
    }

    private boolean depends(int q, int p) {
        if (q == p || !applied.contains(q) || !applied.contains(p)) {
            return false;
        }
        for (Step step : now.steps) {
            if (step.patch == q && step.source != null) {
                int from = step.source.patch;
                if (from == p || from != q && depends(from, p)) {
                    return true;
                }
            }
        }
        return false;
    }

    private boolean live(int at, Boolean[] known) {
        if (known[at] != null) {
            return known[at];
        }
        Step step = now.steps.get(at);
        boolean live = false;
        int next = at + 1;
        for (; next < now.steps.size() && !live; next++) {
            Step reader = now.steps.get(next);
            live = reader.source == step && live(next, known);
        }
        boolean last = lastOn(now.steps, step.change.t, step.change.j) == step;
        known[at] = live || last;
        return known[at];
    }

    private int deadSet(int p) {
        Boolean[] known = new Boolean[now.steps.size()];
        int set = 0;
        for (int at = 0; at < now.steps.size(); at++) {
            Step step = now.steps.get(at);
            if (step.patch == p && !live(at, known)) {
                set |= 1 << step.k;
            }
        }
        return set;
    }

    private static int differing(Object one, Object other) {
        int sum = 0;
        for (int i = 0; isArray(one) && i < Array.getLength(one); i++) {
            sum += same(Array.get(one, i), Array.get(other, i)) ? 0 : 1;
        }
        return sum;
    }

    private static int allDiffering(Object[] one, Object[] other) {
        int sum = 0;
        for (int s = 0; s < 6; s++) {
            sum += differing(one[s], other[s]);
        }
        return sum;
    }

    private static boolean slot(int s) {
        return s >= 0 && s <= 5;
    }

    private boolean patch(int p) {
        return p >= 0 && p < patches.size();
    }

    private boolean used(int s) {
        return applied.stream().flatMap(p -> patches.get(p).stream()).anyMatch(c -> c.t == s || c.copy && c.s == s);
    }

    private static long asLong(int error) {
        return Long.MIN_VALUE - error;
    }

    private int elementError(int s, int i) {
        if (!slot(s)) {
            return BAD;
        }
        int finding = placeFinding(now.things[s], i);
        return finding == 0 ? 0 : -10 - finding;
    }

    // ---- the face

    public int row(int s, int kind, int n) {
        if (!slot(s) || kind < 0 || kind > 14 || kind < 13 && n > 12) {
            return BAD;
        }
        if (used(s)) {
            return NOT;
        }
        if (kind < 13 && n < 0) {
            return -17;
        }
        bases[s] = kind == 13 ? "a thing" : kind == 14 ? new Mark(1) : Array.newInstance(COMPONENTS[kind], n);
        now = play(applied);
        return kind < 13 ? n : 0;
    }

    public int lose(int s) {
        if (!slot(s)) {
            return BAD;
        }
        int held = kind(s);
        if (used(s)) {
            return NOT;
        }
        bases[s] = null;
        now = play(applied);
        return held;
    }

    public int kind(int s) {
        if (!slot(s)) {
            return BAD;
        }
        Object thing = now.things[s];
        if (thing == null) {
            return -11;
        }
        return isArray(thing) ? List.of(COMPONENTS).indexOf(thing.getClass().getComponentType())
            : thing instanceof String ? 13 : 14;
    }

    public int size(int s) {
        if (!slot(s)) {
            return BAD;
        }
        int place = placeFinding(now.things[s], 0);
        return place == 1 || place == 2 ? -10 - place : Array.getLength(now.things[s]);
    }

    public long get(int s, int way, int i) {
        if (!slot(s) || way < 0 || way > 8) {
            return asLong(BAD);
        }
        int finding = reading(now.things[s], way, i);
        met[way][finding]++;
        return finding != 0 ? asLong(-10 - finding) : numberOf(readValue);
    }

    public int what(int s, int i) {
        int error = elementError(s, i);
        return error != 0 ? error : typeOf(Array.get(now.things[s], i));
    }

    public long bits(int s, int i) {
        int error = elementError(s, i);
        if (error != 0) {
            return asLong(error);
        }
        Object value = Array.get(now.things[s], i);
        if (value instanceof Float f) {
            return Float.floatToIntBits(f);
        }
        return value instanceof Double d ? Double.doubleToLongBits(d) : asLong(NOT);
    }

    public int changed(int s) {
        int error = size(s);
        return error < 0 ? error : differing(now.things[s], bases[s]);
    }

    private int add(Change c) {
        if (draft.size() >= 6) {
            return FULL;
        }
        draft.add(c);
        return draft.size();
    }

    public int change(int s, int way, int i, int v) {
        return !slot(s) || way < 0 || way > 21 ? BAD : add(new Change(false, 0, 0, way, s, i, v));
    }

    public int move(int s, int i, int way, int t, int j) {
        return !slot(s) || !slot(t) || way < 0 || way > 8 ? BAD : add(new Change(true, s, i, way, t, j, 0));
    }

    public int drop() {
        if (draft.isEmpty()) {
            return NOT;
        }
        draft.remove(draft.size() - 1);
        return draft.size();
    }

    public int preview(int k) {
        if (k < 0 || k >= draft.size()) {
            return BAD;
        }
        Object[] things = allCopied(now.things);
        int finding = 0;
        for (Change c : draft.subList(0, k + 1)) {
            finding = doChange(things, c, false);
        }
        return finding;
    }

    public int type(int b) {
        if (b < 0 || b > 255) {
            return BAD;
        }
        if (buffer.length() >= 80) {
            return FULL;
        }
        buffer += (char) b;
        return buffer.length();
    }

    public int wipe() {
        int had = buffer.length();
        buffer = "";
        return had;
    }

    private static final String INT = "(0|-?[1-9][0-9]*)";
    private static final Pattern WRITE = Pattern.compile("([0-5])([a-v])" + INT + "=" + INT);
    private static final Pattern COPY = Pattern.compile("([0-5])\\." + INT + "([a-i])([0-5])\\." + INT);

    private static Integer intOf(String digits) {
        BigInteger n = new BigInteger(digits);
        return n.bitLength() < 32 ? n.intValue() : null;
    }

    private static Change changeOf(String text) {
        Matcher write = WRITE.matcher(text);
        Matcher copy = COPY.matcher(text);
        Integer i = null, j = null;
        if (write.matches()) {
            i = intOf(write.group(3));
            j = intOf(write.group(4));
        } else if (copy.matches()) {
            i = intOf(copy.group(2));
            j = intOf(copy.group(5));
        }
        if (i == null || j == null) {
            return null;
        }
        return write.matches()
            ? new Change(false, 0, 0, write.group(2).charAt(0) - 'a', Integer.parseInt(write.group(1)), i, j)
            : new Change(true, Integer.parseInt(copy.group(1)), i, copy.group(3).charAt(0) - 'a',
                Integer.parseInt(copy.group(4)), j, 0);
    }

    private static List<Change> changesOf(String text) {
        List<Change> changes = new ArrayList<>();
        for (String part : text.split(";", -1)) {
            changes.add(changeOf(part));
        }
        return changes.stream().anyMatch(Objects::isNull) ? null : changes;
    }

    private static boolean isBeginning(String text) {
        for (String rest : new String[] {"", "0a0=0", "a0=0", "0=0", "=0", "0", "1=0", "1", ".0a0.0", "0a0.0", "a0.0",
            "0.0", ".0", "1a0.0"}) {
            if (changesOf(text + rest) != null) {
                return true;
            }
        }
        return false;
    }

    public int flaw() {
        if (changesOf(buffer) != null) {
            return NONE;
        }
        int longest = buffer.length();
        while (!isBeginning(buffer.substring(0, longest))) {
            longest--;
        }
        return longest;
    }

    public int read() {
        List<Change> changes = changesOf(buffer);
        if (changes == null) {
            return NOT;
        }
        if (draft.size() + changes.size() > 6) {
            return FULL;
        }
        draft.addAll(changes);
        buffer = "";
        return draft.size();
    }

    public int text(int p, int n) {
        if (p != 24 && !patch(p)) {
            return BAD;
        }
        List<String> parts = new ArrayList<>();
        for (Change c : p == 24 ? draft : patches.get(p)) {
            parts.add(c.text());
        }
        String text = String.join(";", parts);
        return n == NONE ? text.length() : n < 0 || n >= text.length() ? BAD : text.charAt(n);
    }

    public int lay() {
        if (draft.isEmpty()) {
            return NOT;
        }
        if (patches.size() == 24) {
            return FULL;
        }
        Object[] things = allCopied(now.things);
        for (int k = 0; k < draft.size(); k++) {
            int finding = doChange(things, draft.get(k), true);
            if (finding != 0) {
                fault = new int[] {24, k, finding};
                return -10 - finding;
            }
        }
        patches.add(new ArrayList<>(draft));
        draft.clear();
        undone.clear();
        applied.add(patches.size() - 1);
        now = play(applied);
        return patches.size() - 1;
    }

    public int undo() {
        if (applied.isEmpty()) {
            return NOT;
        }
        int p = applied.remove(applied.size() - 1);
        undone.addFirst(p);
        now = play(applied);
        return p;
    }

    private List<Integer> withOnTop(int p) {
        List<Integer> order = new ArrayList<>(applied);
        order.add(p);
        return order;
    }

    private List<Integer> withoutPatch(int p) {
        List<Integer> order = new ArrayList<>(applied);
        order.remove((Integer) p);
        return order;
    }

    public int redo() {
        if (undone.isEmpty()) {
            return NOT;
        }
        int error = carryOut(withOnTop(undone.getFirst()));
        return error != 0 ? error : undone.removeFirst();
    }

    public int again(int p) {
        if (!patch(p)) {
            return BAD;
        }
        if (applied.contains(p)) {
            return NOT;
        }
        int error = carryOut(withOnTop(p));
        if (error != 0) {
            return error;
        }
        undone.clear();
        return applied.size();
    }

    private int appliedError(int p) {
        return !patch(p) ? BAD : !applied.contains(p) ? NOT : 0;
    }

    public int out(int p) {
        int error = appliedError(p);
        return error != 0 ? error : rearrange(withoutPatch(p));
    }

    public int lift(int p) {
        int error = appliedError(p);
        if (error != 0) {
            return error;
        }
        List<Integer> order = withoutPatch(p);
        order.add(p);
        return rearrange(order);
    }

    public int swap(int k) {
        if (k < 0 || (long) k + 1 >= applied.size()) {
            return BAD;
        }
        List<Integer> order = new ArrayList<>(applied);
        order.set(k, applied.get(k + 1));
        order.set(k + 1, applied.get(k));
        return rearrange(order);
    }

    public int with(int p) {
        int error = appliedError(p);
        if (error != 0) {
            return error;
        }
        List<Integer> order = new ArrayList<>();
        for (int q : applied) {
            if (q != p && !depends(q, p)) {
                order.add(q);
            }
        }
        int had = applied.size();
        if (carryOut(order) != 0) {
            throw new IllegalStateException("what does not depend on a patch had a finding without it");
        }
        undone.clear();
        return had - applied.size();
    }

    public int hangs(int p) {
        int error = appliedError(p);
        if (error != 0) {
            return error;
        }
        int set = 0;
        for (int q = 0; q < patches.size(); q++) {
            set |= depends(q, p) ? 1 << q : 0;
        }
        return set;
    }

    public long without(int p, int s, int i) {
        if (!patch(p) || !slot(s)) {
            return asLong(BAD);
        }
        if (!applied.contains(p)) {
            return asLong(NOT);
        }
        int error = elementError(s, i);
        if (error != 0) {
            return asLong(error);
        }
        Outcome result = play(withoutPatch(p));
        return result.finding != 0 ? asLong(-10 - result.finding) : numberOf(Array.get(result.things[s], i));
    }

    public long trace(int p, int k, int what) {
        if (!patch(p) || k < 0 || k >= patches.get(p).size() || what < 0 || what > 1) {
            return asLong(BAD);
        }
        if (!applied.contains(p)) {
            return asLong(NOT);
        }
        Step step = stepOf(now, p, k);
        return numberOf(what == 0 ? step.after : step.before);
    }

    public int dead(int p) {
        int error = appliedError(p);
        return error != 0 ? error : deadSet(p);
    }

    public int prune() {
        int removed = 0;
        List<List<Change>> kept = new ArrayList<>(patches);
        for (int p : applied) {
            List<Change> live = new ArrayList<>();
            int set = deadSet(p);
            for (int k = 0; k < patches.get(p).size(); k++) {
                if ((set & 1 << k) == 0) {
                    live.add(patches.get(p).get(k));
                }
            }
            removed += patches.get(p).size() - live.size();
            kept.set(p, live);
        }
        patches.clear();
        patches.addAll(kept);
        now = play(applied);
        return removed;
    }

    public int order(int k) {
        return k < 0 || k >= applied.size() ? BAD : applied.get(k);
    }

    public int blame(int s, int i) {
        int error = elementError(s, i);
        if (error != 0) {
            return error;
        }
        Step last = lastOn(now.steps, s, i);
        return last == null ? NONE : last.patch;
    }

    public int since(int s, int i) {
        int error = elementError(s, i);
        if (error != 0) {
            return error;
        }
        int k = applied.size();
        while (k > 0 && same(Array.get(now.after.get(k - 1)[s], i), Array.get(now.things[s], i))) {
            k--;
        }
        return k;
    }

    public int settle() {
        int had = applied.size();
        bases = allCopied(now.things);
        patches.clear();
        versions.clear();
        undone.clear();
        applied.clear();
        now = play(applied);
        return had;
    }

    public int keep() {
        if (versions.size() == 6) {
            return FULL;
        }
        versions.add(new ArrayList<>(applied));
        return versions.size() - 1;
    }

    public int go(int v) {
        if (v < 0 || v >= versions.size()) {
            return BAD;
        }
        int error = carryOut(versions.get(v));
        if (error != 0) {
            return error;
        }
        undone.clear();
        return applied.size();
    }

    public int between(int v, int w) {
        if (v < 0 || v >= versions.size() || w < 0 || w >= versions.size()) {
            return BAD;
        }
        Outcome one = play(versions.get(v));
        Outcome other = play(versions.get(w));
        if (one.finding != 0) {
            return -10 - one.finding;
        }
        return other.finding != 0 ? -10 - other.finding : allDiffering(one.things, other.things);
    }

    public int fault(int what) {
        return what < 0 || what > 2 ? BAD : fault[what];
    }

    public int met(int row, int answer) {
        return row < 0 || row > 17 || answer < 0 || answer > 5 ? BAD : met[row][answer];
    }

    public int count(int what) {
        switch (what) {
            case 0: return patches.size();
            case 1: return applied.size();
            case 2: return draft.size();
            case 3: return undone.size();
            case 4: return versions.size();
            case 5: return allDiffering(now.things, bases);
            case 6: return now.steps.size();
            case 7: return applied.stream().mapToInt(p -> Integer.bitCount(deadSet(p))).sum();
            case 8: return applied.isEmpty() ? NONE : applied.get(applied.size() - 1);
            default: return BAD;
        }
    }

    public long digest() {
        List<Long> values = new ArrayList<>();
        for (int what = 0; what <= 8; what++) {
            values.add((long) count(what));
        }
        for (int s = 0; s < 6; s++) {
            values.add((long) kind(s));
            values.add((long) size(s));
            values.add((long) changed(s));
            for (int i = 0; i < size(s); i++) {
                values.add((long) what(s, i));
                values.add(numberOf(Array.get(now.things[s], i)));
                values.add((long) blame(s, i));
                values.add((long) since(s, i));
            }
        }
        for (int p : applied) {
            values.add((long) p);
            values.add((long) hangs(p));
            values.add((long) dead(p));
            values.add((long) text(p, NONE));
            for (int k = 0; k < patches.get(p).size(); k++) {
                values.add(trace(p, k, 0));
                values.add(trace(p, k, 1));
            }
        }
        for (int k = 0; k < draft.size(); k++) {
            values.add((long) preview(k));
        }
        values.add((long) flaw());
        for (int what = 0; what <= 2; what++) {
            values.add((long) fault(what));
        }
        for (int row = 0; row <= 17; row++) {
            for (int answer = 0; answer <= 5; answer++) {
                values.add((long) met(row, answer));
            }
        }
        return values.stream().reduce(17L, (h, v) -> 31 * h + v);
    }
}
