/** Numbered patches on arrays of any element type; README.md says how to use it. */
public final class PatchDesk {
    public static final int NONE = -1, BAD = -2, NOT = -3, FULL = -4;

    private static final int SLOTS = 6, MOST_ELEMENTS = 12, CELLS = SLOTS * MOST_ELEMENTS;
    private static final int MOST_PATCHES = 24, DRAFT = 24, LISTS = 25;
    private static final int MOST_CHANGES = 6, STEPS = LISTS * MOST_CHANGES;
    private static final int MOST_VERSIONS = 6;

    /** A buffer of 80 bytes; the longest copy has 27 bytes, and five semicolons join six of them. */
    private static final int TEXT_ROOM = 80, SCRIPT_ROOM = MOST_CHANGES * 27 + 5;

    private static final int FINE = 0, EMPTY = 1, NO_ARRAY = 2, OBJECTS = 3, OTHER_ARRAY = 4;
    private static final int NO_ELEMENT = 5, NO_NUMBER = 6, NEGATIVE_SIZE = 7;

    private static final int BOOLEAN = 0, BYTE = 1, CHAR = 2, SHORT = 3, INT = 4, LONG = 5;
    private static final int FLOAT = 6, DOUBLE = 7, STRING = 8, MARK = 9, SEAL = 10, NULL = 11;

    /** Up to LAST_PRIMITIVE a kind of array has the number of its elements' type. */
    private static final int LAST_PRIMITIVE = 7, STRINGS = 8, MARKS = 9, SEALS = 10;
    private static final int INTEGERS = 11, ANY_OBJECTS = 12, LAST_ARRAY = 12, LAST_KIND = 14;

    /** The way to read that takes every element as it is, and the first ways to write objects. */
    private static final int AS_IS = 8, OBJECT_WAYS = 8, UNCOUNTED_WAYS = 20, LAST_WAY = 21;

    private static final int TALLY_ROWS = 18, TALLY_ANSWERS = 6;

    private static final long LEAST_LONG = 1L << 63;

    private final Shelf shelf = new Shelf();
    private final Book book = new Book();
    private final Tape tape = new Tape();
    private final Script script = new Script();
    private final Tally tally = new Tally();
    private final Sequence undone = new Sequence();
    private final Sequence[] versions = new Sequence[MOST_VERSIONS];
    private int versionCount = 0;
    private Run now = new Run(shelf, book);
    private Run trial = new Run(shelf, book);
    private final Run rival = new Run(shelf, book);
    private int faultPatch = NONE;
    private int faultChange = NONE;
    private int faultFinding = NONE;

    public PatchDesk() {
        for (int v = 0; v < MOST_VERSIONS; v++) {
            versions[v] = new Sequence();
        }
    }

    // ---- things

    public int row(int s, int kind, int n) {
        if (!isSlot(s) || kind < 0 || kind > LAST_KIND) {
            return BAD;
        }
        boolean array = kind <= LAST_ARRAY;
        if (array && n > MOST_ELEMENTS) {
            return BAD;
        }
        if (isInUse(s)) {
            return NOT;
        }
        if (array && n < 0) {
            return findingCode(NEGATIVE_SIZE);
        }
        shelf.place(s, kind, array ? n : 0);
        now.play();
        return array ? n : 0;
    }

    public int lose(int s) {
        if (!isSlot(s)) {
            return BAD;
        }
        if (isInUse(s)) {
            return NOT;
        }
        int held = shelf.kinds[s];
        if (held == NONE) {
            return findingCode(EMPTY);
        }
        shelf.place(s, NONE, 0);
        now.play();
        return held;
    }

    public int kind(int s) {
        if (!isSlot(s)) {
            return BAD;
        }
        int held = shelf.kinds[s];
        return held == NONE ? findingCode(EMPTY) : held;
    }

    public int size(int s) {
        if (!isSlot(s)) {
            return BAD;
        }
        int finding = shelf.arrayFinding(s);
        return finding != FINE ? findingCode(finding) : shelf.sizes[s];
    }

    public long get(int s, int way, int i) {
        if (!isSlot(s) || way < 0 || way > AS_IS) {
            return longError(BAD);
        }
        tally.add(way, shelf.readingFinding(s, way, i));
        return numberRead(s, way, i);
    }

    public int what(int s, int i) {
        int error = elementError(s, i);
        return error != 0 ? error : now.cells.types[cellOf(s, i)];
    }

    public long bits(int s, int i) {
        int error = elementError(s, i);
        if (error != 0) {
            return longError(error);
        }
        int cell = cellOf(s, i);
        long number = now.cells.numbers[cell];
        switch (now.cells.types[cell]) {
            case FLOAT:
                return floatBits(number);
            case DOUBLE:
                return doubleBits(number);
            default:
                return longError(NOT);
        }
    }

    public int changed(int s) {
        if (!isSlot(s)) {
            return BAD;
        }
        int finding = shelf.arrayFinding(s);
        return finding != FINE ? findingCode(finding) : differences(s, now.cells, shelf.base);
    }

    // ---- the draft

    public int change(int s, int way, int i, int v) {
        if (!isSlot(s) || way < 0 || way > LAST_WAY) {
            return BAD;
        }
        if (book.lengths[DRAFT] >= MOST_CHANGES) {
            return FULL;
        }
        book.nextOfDraft().become(NONE, 0, way, s, i, v);
        book.lengths[DRAFT]++;
        return book.lengths[DRAFT];
    }

    public int move(int s, int i, int way, int t, int j) {
        if (!isSlot(s) || way < 0 || way > AS_IS || !isSlot(t)) {
            return BAD;
        }
        if (book.lengths[DRAFT] >= MOST_CHANGES) {
            return FULL;
        }
        book.nextOfDraft().become(s, i, way, t, j, 0);
        book.lengths[DRAFT]++;
        return book.lengths[DRAFT];
    }

    public int drop() {
        if (book.lengths[DRAFT] == 0) {
            return NOT;
        }
        book.lengths[DRAFT]--;
        return book.lengths[DRAFT];
    }

    public int preview(int k) {
        if (k < 0 || k >= book.lengths[DRAFT]) {
            return BAD;
        }
        trial.standLike(now);
        int finding = FINE;
        for (int n = 0; n <= k; n++) {
            finding = trial.step(DRAFT, n);
        }
        return finding;
    }

    // ---- texts

    public int type(int b) {
        if (b < 0 || b > 255) {
            return BAD;
        }
        if (tape.length >= TEXT_ROOM) {
            return FULL;
        }
        tape.bytes[tape.length] = b;
        tape.length++;
        return tape.length;
    }

    public int wipe() {
        int had = tape.length;
        tape.length = 0;
        return had;
    }

    public int flaw() {
        return tape.findFlaw();
    }

    public int read() {
        if (tape.findFlaw() != NONE) {
            return NOT;
        }
        if (book.lengths[DRAFT] + tape.changesPassed > MOST_CHANGES) {
            return FULL;
        }
        int fresh = tape.changesPassed;
        tape.at = 0;
        for (int n = 0; n < fresh; n++) {
            tape.passChange();
            tape.passByte(';', ';');
            book.nextOfDraft().becomeLike(tape.parsed);
            book.lengths[DRAFT]++;
        }
        tape.length = 0;
        return book.lengths[DRAFT];
    }

    public int text(int p, int n) {
        if (p != DRAFT && !isPatch(p)) {
            return BAD;
        }
        script.write(book, p);
        if (n == NONE) {
            return script.length;
        }
        return n < 0 || n >= script.length ? BAD : script.bytes[n];
    }

    // ---- patches

    public int lay() {
        int length = book.lengths[DRAFT];
        if (length == 0) {
            return NOT;
        }
        if (book.patchCount >= MOST_PATCHES) {
            return FULL;
        }
        trial.standLike(now);
        for (int k = 0; k < length; k++) {
            int finding = trial.step(DRAFT, k);
            tally.addStep(trial);
            if (finding != FINE) {
                return refuse(DRAFT, k, finding);
            }
        }
        int p = book.makePatchOfDraft();
        now.order.append(p);
        now.play();
        undone.length = 0;
        return p;
    }

    public int undo() {
        int applied = now.order.length;
        if (applied == 0) {
            return NOT;
        }
        int p = now.order.items[applied - 1];
        now.order.length = applied - 1;
        now.play();
        undone.append(p);
        return p;
    }

    public int redo() {
        if (undone.length == 0) {
            return NOT;
        }
        int p = undone.items[undone.length - 1];
        planOnTop(p);
        int failed = carryOut();
        if (failed != 0) {
            return failed;
        }
        undone.length--;
        return p;
    }

    public int again(int p) {
        if (!isPatch(p)) {
            return BAD;
        }
        if (isApplied(p)) {
            return NOT;
        }
        planOnTop(p);
        int failed = carryOut();
        if (failed != 0) {
            return failed;
        }
        undone.length = 0;
        return now.order.length;
    }

    public int out(int p) {
        int error = appliedError(p);
        if (error != 0) {
            return error;
        }
        trial.order.becomeLike(now.order);
        trial.order.remove(p);
        return rearranged(carryOut());
    }

    public int lift(int p) {
        int error = appliedError(p);
        if (error != 0) {
            return error;
        }
        trial.order.becomeLike(now.order);
        trial.order.remove(p);
        trial.order.append(p);
        return rearranged(carryOut());
    }

    public int swap(int k) {
        if (k < 0 || k >= now.order.length - 1) {
            return BAD;
        }
        trial.order.becomeLike(now.order);
        trial.order.items[k] = now.order.items[k + 1];
        trial.order.items[k + 1] = now.order.items[k];
        return rearranged(carryOut());
    }

    public int with(int p) {
        int error = appliedError(p);
        if (error != 0) {
            return error;
        }
        int before = now.order.length;
        int leaving = now.dependents(p) | 1 << p;
        trial.order.length = 0;
        for (int n = 0; n < before; n++) {
            int q = now.order.items[n];
            if ((leaving >> q & 1) == 0) {
                trial.order.append(q);
            }
        }
        // What stays reads nothing that leaves, so no patch can have a finding.
        carryOut();
        undone.length = 0;
        return before - now.order.length;
    }

    public int hangs(int p) {
        int error = appliedError(p);
        return error != 0 ? error : now.dependents(p);
    }

    public long without(int p, int s, int i) {
        if (!isPatch(p) || !isSlot(s)) {
            return longError(BAD);
        }
        if (!isApplied(p)) {
            return longError(NOT);
        }
        int error = elementError(s, i);
        if (error != 0) {
            return longError(error);
        }
        trial.order.becomeLike(now.order);
        trial.order.remove(p);
        trial.play();
        if (trial.finding != FINE) {
            return longError(findingCode(trial.finding));
        }
        return numberAt(trial.cells, cellOf(s, i));
    }

    public long trace(int p, int k, int what) {
        if (!isPatch(p) || what < 0 || what > 1 || k < 0 || k >= book.lengths[p]) {
            return longError(BAD);
        }
        if (!isApplied(p)) {
            return longError(NOT);
        }
        return numberAt(what == 0 ? now.after : now.before, stepOf(p, k));
    }

    public int dead(int p) {
        int error = appliedError(p);
        return error != 0 ? error : now.deadSets[p];
    }

    public int prune() {
        int removed = 0;
        for (int n = 0; n < now.order.length; n++) {
            int p = now.order.items[n];
            removed += book.removeChanges(p, now.deadSets[p]);
        }
        now.play();
        return removed;
    }

    public int order(int k) {
        return k < 0 || k >= now.order.length ? BAD : now.order.items[k];
    }

    public int blame(int s, int i) {
        int error = elementError(s, i);
        return error != 0 ? error : now.writers[cellOf(s, i)];
    }

    public int since(int s, int i) {
        int error = elementError(s, i);
        return error != 0 ? error : now.unchangedAfter(cellOf(s, i));
    }

    public int settle() {
        int applied = now.order.length;
        shelf.base.becomeLike(now.cells);
        book.patchCount = 0;
        versionCount = 0;
        undone.length = 0;
        now.order.length = 0;
        now.play();
        return applied;
    }

    // ---- versions

    public int keep() {
        if (versionCount >= MOST_VERSIONS) {
            return FULL;
        }
        versions[versionCount].becomeLike(now.order);
        versionCount++;
        return versionCount - 1;
    }

    public int go(int v) {
        if (!isVersion(v)) {
            return BAD;
        }
        trial.order.becomeLike(versions[v]);
        int failed = carryOut();
        if (failed != 0) {
            return failed;
        }
        undone.length = 0;
        return now.order.length;
    }

    public int between(int v, int w) {
        if (!isVersion(v) || !isVersion(w)) {
            return BAD;
        }
        trial.order.becomeLike(versions[v]);
        trial.play();
        if (trial.finding != FINE) {
            return findingCode(trial.finding);
        }
        rival.order.becomeLike(versions[w]);
        rival.play();
        if (rival.finding != FINE) {
            return findingCode(rival.finding);
        }
        return allDifferences(trial.cells, rival.cells);
    }

    // ---- what is told of all

    public int fault(int what) {
        switch (what) {
            case 0:
                return faultPatch;
            case 1:
                return faultChange;
            case 2:
                return faultFinding;
            default:
                return BAD;
        }
    }

    public int met(int row, int answer) {
        if (row < 0 || row >= TALLY_ROWS || answer < 0 || answer >= TALLY_ANSWERS) {
            return BAD;
        }
        return tally.counts[row * TALLY_ANSWERS + answer];
    }

    public int count(int what) {
        int applied = now.order.length;
        switch (what) {
            case 0:
                return book.patchCount;
            case 1:
                return applied;
            case 2:
                return book.lengths[DRAFT];
            case 3:
                return undone.length;
            case 4:
                return versionCount;
            case 5:
                return allDifferences(now.cells, shelf.base);
            case 6:
                return appliedChanges();
            case 7:
                return deadChanges();
            case 8:
                return applied == 0 ? NONE : now.order.items[applied - 1];
            default:
                return BAD;
        }
    }

    public long digest() {
        long h = 17;
        for (int what = 0; what <= 8; what++) {
            h = hashed(h, count(what));
        }
        for (int s = 0; s < SLOTS; s++) {
            h = slotHashed(h, s);
        }
        for (int n = 0; n < now.order.length; n++) {
            h = patchHashed(h, now.order.items[n]);
        }
        for (int k = 0; k < book.lengths[DRAFT]; k++) {
            h = hashed(h, preview(k));
        }
        h = hashed(h, flaw());
        for (int what = 0; what <= 2; what++) {
            h = hashed(h, fault(what));
        }
        for (int n = 0; n < TALLY_ROWS * TALLY_ANSWERS; n++) {
            h = hashed(h, tally.counts[n]);
        }
        return h;
    }

    private long slotHashed(long start, int s) {
        long h = hashed(start, kind(s));
        h = hashed(h, size(s));
        h = hashed(h, changed(s));
        if (shelf.arrayFinding(s) != FINE) {
            return h;
        }
        for (int i = 0; i < shelf.sizes[s]; i++) {
            h = hashed(h, what(s, i));
            h = hashed(h, numberRead(s, AS_IS, i));
            h = hashed(h, blame(s, i));
            h = hashed(h, since(s, i));
        }
        return h;
    }

    private long patchHashed(long start, int p) {
        long h = hashed(start, p);
        h = hashed(h, hangs(p));
        h = hashed(h, dead(p));
        h = hashed(h, text(p, NONE));
        for (int k = 0; k < book.lengths[p]; k++) {
            h = hashed(h, trace(p, k, 0));
            h = hashed(h, trace(p, k, 1));
        }
        return h;
    }

    private static long hashed(long h, long v) {
        return 31 * h + v;
    }

    // ---- errors

    private static int findingCode(int finding) {
        return -10 - finding;
    }

    private static long longError(int error) {
        return LEAST_LONG - error;
    }

    /** The error of naming this element, or 0. */
    private int elementError(int s, int i) {
        if (!isSlot(s)) {
            return BAD;
        }
        int finding = shelf.elementFinding(s, i);
        return finding == FINE ? 0 : findingCode(finding);
    }

    /** The error of naming this as an applied patch, or 0. */
    private int appliedError(int p) {
        if (!isPatch(p)) {
            return BAD;
        }
        return isApplied(p) ? 0 : NOT;
    }

    private int refuse(int p, int k, int finding) {
        faultPatch = p;
        faultChange = k;
        faultFinding = finding;
        return findingCode(finding);
    }

    // ---- what there is

    private static boolean isSlot(int s) {
        return s >= 0 && s < SLOTS;
    }

    private boolean isPatch(int p) {
        return p >= 0 && p < book.patchCount;
    }

    private boolean isApplied(int p) {
        return now.order.indexOf(p) != NONE;
    }

    private boolean isVersion(int v) {
        return v >= 0 && v < versionCount;
    }

    private boolean isInUse(int s) {
        for (int n = 0; n < now.order.length; n++) {
            if (book.touches(now.order.items[n], s)) {
                return true;
            }
        }
        return false;
    }

    private int appliedChanges() {
        int sum = 0;
        for (int n = 0; n < now.order.length; n++) {
            sum += book.lengths[now.order.items[n]];
        }
        return sum;
    }

    private int deadChanges() {
        int sum = 0;
        for (int n = 0; n < now.order.length; n++) {
            sum += Integer.bitCount(now.deadSets[now.order.items[n]]);
        }
        return sum;
    }

    // ---- other orders

    /** Makes the trial's order the present one, unless a patch would have a finding in it. */
    private int carryOut() {
        trial.play();
        if (trial.finding != FINE) {
            return refuse(trial.failedPatch, trial.failedChange, trial.finding);
        }
        Run former = now;
        now = trial;
        trial = former;
        return 0;
    }

    /** After carryOut() the trial is what stood before. */
    private int rearranged(int failed) {
        if (failed != 0) {
            return failed;
        }
        undone.length = 0;
        return now.movedFrom(trial);
    }

    private void planOnTop(int p) {
        trial.order.becomeLike(now.order);
        trial.order.append(p);
    }

    // ---- elements and their values

    private static int cellOf(int s, int i) {
        return s * MOST_ELEMENTS + i;
    }

    private static int stepOf(int p, int k) {
        return p * MOST_CHANGES + k;
    }

    private long numberRead(int s, int way, int i) {
        int finding = shelf.readingFinding(s, way, i);
        if (finding != FINE) {
            return longError(findingCode(finding));
        }
        int cell = cellOf(s, i);
        if (way == AS_IS) {
            return numberAt(now.cells, cell);
        }
        return widened(now.cells.types[cell], now.cells.numbers[cell], way);
    }

    private static long numberAt(Values values, int at) {
        return values.types[at] == NULL ? longError(findingCode(NO_NUMBER)) : values.numbers[at];
    }

    private int differences(int s, Values one, Values other) {
        int sum = 0;
        for (int i = 0; i < shelf.sizes[s]; i++) {
            if (!one.equalAt(cellOf(s, i), other)) {
                sum++;
            }
        }
        return sum;
    }

    private int allDifferences(Values one, Values other) {
        int sum = 0;
        for (int s = 0; s < SLOTS; s++) {
            if (shelf.arrayFinding(s) == FINE) {
                sum += differences(s, one, other);
            }
        }
        return sum;
    }

    private static boolean widens(int a, int b) {
        switch (a) {
            case BYTE:
                return b == BYTE || b >= SHORT;
            case CHAR:
            case SHORT:
                return b == a || b >= INT;
            case BOOLEAN:
                return b == BOOLEAN;
            default:
                return b >= a;
        }
    }

    /** Numbers of floats and doubles are 8 times the value, so that all of them are whole. */
    private static long widened(int from, long number, int to) {
        if (to < FLOAT || from >= FLOAT) {
            return number;
        }
        return 8 * (to == FLOAT ? (long) (float) number : (long) (double) number);
    }

    private static long numberMade(int type, int v) {
        switch (type) {
            case BOOLEAN:
                return v & 1;
            case BYTE:
                return (byte) v;
            case CHAR:
                return (char) v;
            case SHORT:
                return (short) v;
            case LONG:
                return v * 100000007L;
            case FLOAT:
                return (long) (float) v;
            case STRING:
                return (v & 2147483647) % 78;
            case NULL:
                return 0;
            default:
                return v;
        }
    }

    private static int typeWritten(int way) {
        if (way < OBJECT_WAYS) {
            return way;
        }
        return way < UNCOUNTED_WAYS ? way - 8 : way - 11;
    }

    private static long floatBits(long number) {
        long bits = magnitudeBits(number, 23, 127);
        return number < 0 ? (int) (bits | 1L << 31) : bits;
    }

    private static long doubleBits(long number) {
        long bits = magnitudeBits(number, 52, 1023);
        return number < 0 ? bits | LEAST_LONG : bits;
    }

    /** The library's functions for this are not allowed here; the number is 8 times the value. */
    private static long magnitudeBits(long number, int fractionBits, int bias) {
        if (number == 0) {
            return 0;
        }
        long magnitude = Math.abs(number);
        int top = 62;
        while (top > 0 && magnitude >> top == 0) {
            top--;
        }
        long aligned = top > fractionBits
            ? magnitude >> top - fractionBits : magnitude << fractionBits - top;
        long fraction = aligned & (1L << fractionBits) - 1;
        long exponent = top - 3 + bias;
        return exponent << fractionBits | fraction;
    }

    /** A row of values, each with its type and its number. */
    private static final class Values {
        final int[] types;
        final long[] numbers;

        Values(int length) {
            types = new int[length];
            numbers = new long[length];
        }

        void put(int at, int type, long number) {
            types[at] = type;
            numbers[at] = number;
        }

        boolean isAt(int at, int type, long number) {
            return types[at] == type && numbers[at] == number;
        }

        boolean equalAt(int at, Values other) {
            return isAt(at, other.types[at], other.numbers[at]);
        }

        void becomeLike(Values other) {
            int length = Math.min(types.length, other.types.length);
            for (int at = 0; at < length; at++) {
                put(at, other.types[at], other.numbers[at]);
            }
        }
    }

    /** What the slots hold, the bases of the arrays, and what can be read and written there. */
    private static final class Shelf {
        final int[] kinds = new int[SLOTS];
        final int[] sizes = new int[SLOTS];
        final Values base = new Values(CELLS);

        Shelf() {
            for (int s = 0; s < SLOTS; s++) {
                kinds[s] = NONE;
            }
        }

        void place(int s, int kind, int length) {
            kinds[s] = kind;
            sizes[s] = length;
            int type = kind <= LAST_PRIMITIVE ? kind : NULL;
            for (int i = 0; i < length; i++) {
                base.put(cellOf(s, i), type, 0);
            }
        }

        int arrayFinding(int s) {
            if (kinds[s] == NONE) {
                return EMPTY;
            }
            return kinds[s] > LAST_ARRAY ? NO_ARRAY : FINE;
        }

        int elementFinding(int s, int i) {
            int finding = arrayFinding(s);
            return finding != FINE ? finding : indexFinding(s, i);
        }

        int indexFinding(int s, int i) {
            return i < 0 || i >= sizes[s] ? NO_ELEMENT : FINE;
        }

        int readingFinding(int s, int way, int i) {
            int finding = arrayFinding(s);
            if (finding != FINE) {
                return finding;
            }
            if (way != AS_IS) {
                if (kinds[s] > LAST_PRIMITIVE) {
                    return OBJECTS;
                }
                if (!widens(kinds[s], way)) {
                    return OTHER_ARRAY;
                }
            }
            return indexFinding(s, i);
        }

        int writingFinding(int s, int way, int i) {
            int finding = arrayFinding(s);
            if (finding != FINE) {
                return finding;
            }
            if (kinds[s] > LAST_PRIMITIVE && way < OBJECT_WAYS) {
                return OBJECTS;
            }
            if (!takes(kinds[s], typeWritten(way))) {
                return OTHER_ARRAY;
            }
            return indexFinding(s, i);
        }

        static boolean takes(int kind, int type) {
            switch (type) {
                case STRING:
                    return kind == STRINGS || kind == ANY_OBJECTS;
                case MARK:
                    return kind == MARKS;
                case SEAL:
                    return kind == MARKS || kind == SEALS;
                case NULL:
                    return kind > LAST_PRIMITIVE;
                default:
                    if (kind <= LAST_PRIMITIVE) {
                        return widens(type, kind);
                    }
                    return kind == ANY_OBJECTS || kind == INTEGERS && type == INT;
            }
        }
    }

    /** A write, or a copy where from is a slot. */
    private static final class Change {
        int from = NONE;
        int fromIndex = 0;
        int way = 0;
        int to = 0;
        int toIndex = 0;
        int value = 0;

        void become(int newFrom, int newFromIndex, int newWay, int newTo, int newToIndex, int v) {
            from = newFrom;
            fromIndex = newFromIndex;
            way = newWay;
            to = newTo;
            toIndex = newToIndex;
            value = v;
        }

        void becomeLike(Change other) {
            become(other.from, other.fromIndex, other.way, other.to, other.toIndex, other.value);
        }

        boolean isCopy() {
            return from != NONE;
        }
    }

    /** The changes of all patches, applied or removed, and in list DRAFT those of the draft. */
    private static final class Book {
        final Change[] changes = new Change[STEPS];
        final int[] lengths = new int[LISTS];
        int patchCount = 0;

        Book() {
            for (int at = 0; at < STEPS; at++) {
                changes[at] = new Change();
            }
        }

        Change nextOfDraft() {
            return changes[stepOf(DRAFT, lengths[DRAFT])];
        }

        int makePatchOfDraft() {
            int p = patchCount;
            for (int k = 0; k < lengths[DRAFT]; k++) {
                changes[stepOf(p, k)].becomeLike(changes[stepOf(DRAFT, k)]);
            }
            lengths[p] = lengths[DRAFT];
            lengths[DRAFT] = 0;
            patchCount++;
            return p;
        }

        int removeChanges(int p, int set) {
            int length = lengths[p];
            int left = 0;
            for (int k = 0; k < length; k++) {
                if ((set >> k & 1) == 0) {
                    changes[stepOf(p, left)].becomeLike(changes[stepOf(p, k)]);
                    left++;
                }
            }
            lengths[p] = left;
            return length - left;
        }

        boolean touches(int p, int s) {
            for (int k = 0; k < lengths[p]; k++) {
                Change change = changes[stepOf(p, k)];
                if (change.to == s || change.from == s) {
                    return true;
                }
            }
            return false;
        }
    }

    /** Some patches, each at most once, one after the other. */
    private static final class Sequence {
        final int[] items = new int[MOST_PATCHES];
        int length = 0;

        void append(int p) {
            if (length < MOST_PATCHES) {
                items[length] = p;
                length++;
            }
        }

        int indexOf(int p) {
            for (int n = 0; n < length; n++) {
                if (items[n] == p) {
                    return n;
                }
            }
            return NONE;
        }

        void remove(int p) {
            int left = 0;
            for (int n = 0; n < length; n++) {
                if (items[n] != p) {
                    items[left] = items[n];
                    left++;
                }
            }
            length = left;
        }

        void becomeLike(Sequence other) {
            length = other.length;
            for (int n = 0; n < length; n++) {
                items[n] = other.items[n];
            }
        }
    }

    /** What comes of doing the patches of an order on the bases. */
    private static final class Run {
        final Shelf shelf;
        final Book book;
        final Sequence order = new Sequence();
        final Values cells = new Values(CELLS);
        final int[] writers = new int[CELLS];
        final boolean[] needed = new boolean[CELLS];
        final Values before = new Values(STEPS);
        final Values after = new Values(STEPS);
        final int[] sources = new int[STEPS];
        final int[] deadSets = new int[LISTS];
        int finding = FINE;
        int failedPatch = NONE;
        int failedChange = NONE;
        int readWay = NONE;
        int readFinding = FINE;
        int writeWay = NONE;
        int writeFinding = FINE;
        int heldType = NULL;
        long heldNumber = 0;

        Run(Shelf shelf, Book book) {
            this.shelf = shelf;
            this.book = book;
        }

        void standLike(Run other) {
            cells.becomeLike(other.cells);
        }

        void play() {
            cells.becomeLike(shelf.base);
            for (int cell = 0; cell < CELLS; cell++) {
                writers[cell] = NONE;
            }
            finding = FINE;
            for (int n = 0; n < order.length; n++) {
                int p = order.items[n];
                for (int k = 0; k < book.lengths[p]; k++) {
                    finding = step(p, k);
                    if (finding != FINE) {
                        failedPatch = p;
                        failedChange = k;
                        return;
                    }
                }
            }
            markDead();
        }

        /** Does a change, unless it has a finding; tells which. */
        int step(int p, int k) {
            int at = stepOf(p, k);
            Change change = book.changes[at];
            readWay = NONE;
            writeWay = NONE;
            sources[at] = NONE;
            if (change.isCopy()) {
                pickUp(change, at);
                if (readFinding != FINE) {
                    return readFinding;
                }
            } else {
                writeWay = change.way;
                heldType = typeWritten(change.way);
                heldNumber = numberMade(heldType, change.value);
            }
            writeFinding = shelf.writingFinding(change.to, writeWay, change.toIndex);
            if (writeFinding == FINE) {
                putDown(change, at);
                writers[cellOf(change.to, change.toIndex)] = p;
            }
            return writeFinding;
        }

        void pickUp(Change change, int at) {
            readWay = change.way;
            readFinding = shelf.readingFinding(change.from, readWay, change.fromIndex);
            if (readFinding != FINE) {
                return;
            }
            int cell = cellOf(change.from, change.fromIndex);
            sources[at] = writers[cell];
            int type = cells.types[cell];
            if (readWay == AS_IS) {
                heldType = type;
                heldNumber = cells.numbers[cell];
                writeWay = OBJECT_WAYS + type;
            } else {
                heldType = readWay;
                heldNumber = widened(type, cells.numbers[cell], readWay);
                writeWay = readWay;
            }
        }

        void putDown(Change change, int at) {
            int cell = cellOf(change.to, change.toIndex);
            before.put(at, cells.types[cell], cells.numbers[cell]);
            int kind = shelf.kinds[change.to];
            if (kind <= LAST_PRIMITIVE) {
                cells.put(cell, kind, widened(heldType, heldNumber, kind));
            } else {
                cells.put(cell, heldType, heldNumber);
            }
            after.put(at, cells.types[cell], cells.numbers[cell]);
        }

        /** Goes backwards: what an element holds is needed at the end, and where a live copy reads it. */
        void markDead() {
            for (int cell = 0; cell < CELLS; cell++) {
                needed[cell] = true;
            }
            for (int n = order.length - 1; n >= 0; n--) {
                int p = order.items[n];
                deadSets[p] = 0;
                for (int k = book.lengths[p] - 1; k >= 0; k--) {
                    if (!isNeeded(book.changes[stepOf(p, k)])) {
                        deadSets[p] |= 1 << k;
                    }
                }
            }
        }

        boolean isNeeded(Change change) {
            int cell = cellOf(change.to, change.toIndex);
            boolean live = needed[cell];
            needed[cell] = false;
            if (live && change.isCopy()) {
                needed[cellOf(change.from, change.fromIndex)] = true;
            }
            return live;
        }

        int dependents(int p) {
            int set = 0;
            for (int n = order.indexOf(p) + 1; n < order.length; n++) {
                int q = order.items[n];
                if (readsFrom(q, set | 1 << p)) {
                    set |= 1 << q;
                }
            }
            return set;
        }

        boolean readsFrom(int q, int patches) {
            for (int k = 0; k < book.lengths[q]; k++) {
                int source = sources[stepOf(q, k)];
                if (source != NONE && (patches >> source & 1) != 0) {
                    return true;
                }
            }
            return false;
        }

        int movedFrom(Run former) {
            int sum = 0;
            for (int n = 0; n < order.length; n++) {
                int p = order.items[n];
                boolean stayed = former.order.indexOf(p) != NONE;
                for (int k = 0; k < book.lengths[p] && stayed; k++) {
                    if (!after.equalAt(stepOf(p, k), former.after)) {
                        sum++;
                    }
                }
            }
            return sum;
        }

        int unchangedAfter(int cell) {
            int type = shelf.base.types[cell];
            long number = shelf.base.numbers[cell];
            int since = cells.isAt(cell, type, number) ? 0 : 1;
            for (int n = 0; n < order.length; n++) {
                int last = lastChangeOf(cell, order.items[n]);
                if (last != NONE) {
                    type = after.types[last];
                    number = after.numbers[last];
                }
                if (!cells.isAt(cell, type, number)) {
                    since = n + 2;
                }
            }
            return since;
        }

        int lastChangeOf(int cell, int p) {
            for (int k = book.lengths[p] - 1; k >= 0; k--) {
                Change change = book.changes[stepOf(p, k)];
                if (cellOf(change.to, change.toIndex) == cell) {
                    return stepOf(p, k);
                }
            }
            return NONE;
        }
    }

    /** How often each way has had each finding. */
    private static final class Tally {
        final int[] counts = new int[TALLY_ROWS * TALLY_ANSWERS];

        void add(int row, int answer) {
            counts[row * TALLY_ANSWERS + answer]++;
        }

        void addStep(Run run) {
            if (run.readWay != NONE) {
                add(run.readWay, run.readFinding);
            }
            if (run.writeWay != NONE && run.writeWay < UNCOUNTED_WAYS) {
                add(run.writeWay < OBJECT_WAYS ? 9 + run.writeWay : 17, run.writeFinding);
            }
        }
    }

    /** The text buffer; passing a byte keeps what is passed the beginning of some text of changes. */
    private static final class Tape {
        final int[] bytes = new int[TEXT_ROOM];
        final Change parsed = new Change();
        int length = 0;
        int at = 0;
        int passed = 0;
        int number = 0;
        int changesPassed = 0;

        int findFlaw() {
            at = 0;
            changesPassed = 0;
            for (int n = 0; n <= TEXT_ROOM; n++) {
                if (!passChange()) {
                    return at;
                }
                changesPassed++;
                if (at == length) {
                    return NONE;
                }
                if (!passByte(';', ';')) {
                    return at;
                }
            }
            return at;
        }

        boolean passByte(int low, int high) {
            if (at >= length || bytes[at] < low || bytes[at] > high) {
                return false;
            }
            passed = bytes[at];
            at++;
            return true;
        }

        boolean passChange() {
            if (!passByte('0', '5')) {
                return false;
            }
            int slot = passed - '0';
            return passByte('.', '.') ? passCopy(slot) : passWrite(slot);
        }

        boolean passWrite(int slot) {
            if (!passByte('a', 'v')) {
                return false;
            }
            int way = passed - 'a';
            if (!passNumber()) {
                return false;
            }
            int index = number;
            if (!passByte('=', '=') || !passNumber()) {
                return false;
            }
            parsed.become(NONE, 0, way, slot, index, number);
            return true;
        }

        boolean passCopy(int slot) {
            if (!passNumber()) {
                return false;
            }
            int index = number;
            if (!passByte('a', 'i')) {
                return false;
            }
            int way = passed - 'a';
            if (!passByte('0', '5')) {
                return false;
            }
            int target = passed - '0';
            if (!passByte('.', '.') || !passNumber()) {
                return false;
            }
            parsed.become(slot, index, way, target, number, 0);
            return true;
        }

        boolean passNumber() {
            boolean negative = passByte('-', '-');
            if (!negative && passByte('0', '0')) {
                number = 0;
                return true;
            }
            if (!passByte('1', '9')) {
                return false;
            }
            long most = negative ? 2147483648L : 2147483647L;
            long magnitude = passed - '0';
            for (int n = 0; n < TEXT_ROOM && digitFits(magnitude, most); n++) {
                magnitude = 10 * magnitude + bytes[at] - '0';
                at++;
            }
            number = (int) (negative ? -magnitude : magnitude);
            return true;
        }

        boolean digitFits(long magnitude, long most) {
            if (at >= length || bytes[at] < '0' || bytes[at] > '9') {
                return false;
            }
            return 10 * magnitude + bytes[at] - '0' <= most;
        }
    }

    /** A list of changes as text. */
    private static final class Script {
        final int[] bytes = new int[SCRIPT_ROOM];
        int length = 0;

        void write(Book book, int list) {
            length = 0;
            for (int k = 0; k < book.lengths[list]; k++) {
                if (k > 0) {
                    put(';');
                }
                putChange(book.changes[stepOf(list, k)]);
            }
        }

        void putChange(Change change) {
            if (change.isCopy()) {
                put('0' + change.from);
                put('.');
                putNumber(change.fromIndex);
                put('a' + change.way);
                put('0' + change.to);
                put('.');
                putNumber(change.toIndex);
            } else {
                put('0' + change.to);
                put('a' + change.way);
                putNumber(change.toIndex);
                put('=');
                putNumber(change.value);
            }
        }

        void putNumber(int n) {
            long magnitude = Math.abs((long) n);
            if (n < 0) {
                put('-');
            }
            long scale = 1;
            while (scale < 1000000000 && scale * 10 <= magnitude) {
                scale *= 10;
            }
            for (; scale > 0; scale /= 10) {
                put('0' + (int) (magnitude / scale % 10));
            }
        }

        void put(int b) {
            if (length < SCRIPT_ROOM) {
                bytes[length] = b;
                length++;
            }
        }
    }
}
