/** The boundary cases of promises 1 to 9: a new object, the things in the slots, and what is read of them. */
public final class SlotCasesTest {
    public static void main(String[] args) {
        newObject();
        Cases.run(NEW + ROW + ROW_IN_USE + LOSE + KIND + SIZE);
        Cases.run(GET_ERRORS + GET_NUMBERS + GET_WIDENED + GET_OBJECTS);
        readingWays();
        strings();
        Cases.run(WHAT + BITS + CHANGED);
        Cases.finish("SlotCasesTest", 1, 9);
    }

    private static void newObject() {
        Cases.noteName("1 PatchDesk: all counts of met() are 0");
        PatchDesk desk = new PatchDesk();
        for (int row = 0; row <= 17; row++) {
            for (int answer = 0; answer <= 5; answer++) {
                Calls.due("1 PatchDesk", "met(" + row + ", " + answer + ")", desk.met(row, answer), 0);
            }
        }
        Cases.noteName("1 PatchDesk: what one object holds the next one does not");
        long digest = new PatchDesk().digest();
        Calls.on(desk, "1 PatchDesk", "row(0, 4, 1) = 1; change(0, 4, 0, 1) = 1; lay() = 0; keep() = 0; lay() = NOT");
        Calls.on(desk, "1 PatchDesk", "change(0, 4, 9, 1) = 1; lay() = -15; undo() = 0; type(48) = 1; get(0, 8, 0) = 0");
        Calls.due("1 PatchDesk", "digest()", new PatchDesk().digest(), digest);
        Cases.noteName("1 PatchDesk: the 512th call still answers");
        PatchDesk used = new PatchDesk();
        for (int n = 0; n < 511; n++) {
            used.type(48);
        }
        Calls.due("1 PatchDesk", "wipe(), the 512th call", used.wipe(), 80);
    }

    private static final String NEW = """
        # 1 PatchDesk: every slot is empty
        kind(0) = -11; kind(1) = -11; kind(2) = -11; kind(3) = -11; kind(4) = -11; kind(5) = -11
        size(0) = -11; what(5, 0) = -11; get(3, 8, 0) = !11; changed(2) = -11; lose(4) = -11
        # 1 PatchDesk: there are no patches
        count(0) = 0; count(1) = 0; count(6) = 0; count(7) = 0; count(8) = NONE; order(0) = BAD; text(0, NONE) = BAD
        undo() = NOT; again(0) = BAD; out(0) = BAD
        # 1 PatchDesk: there are no undone patches
        count(3) = 0; redo() = NOT
        # 1 PatchDesk: there are no changes in the draft
        count(2) = 0; text(24, NONE) = 0; preview(0) = BAD; drop() = NOT; lay() = NOT
        # 1 PatchDesk: there are no versions
        count(4) = 0; go(0) = BAD; between(0, 0) = BAD
        # 1 PatchDesk: there is no fault
        fault(0) = NONE; fault(1) = NONE; fault(2) = NONE
        # 1 PatchDesk: the text buffer is empty
        flaw() = 0; read() = NOT; wipe() = 0
        # 1 PatchDesk: no element differs from a base
        count(5) = 0
        """;

    private static final String ROW = """
        # 2 row: s is -1
        row(-1, 4, 1) = BAD
        # 2 row: s is 6
        row(6, 4, 1) = BAD
        # 2 row: s is the least and the greatest int
        row(MIN, 4, 1) = BAD; row(MAX, 4, 1) = BAD
        # 2 row: s is 0
        row(0, 4, 1) = 1; kind(0) = 4; kind(1) = -11; kind(5) = -11
        # 2 row: s is 5
        row(5, 4, 1) = 1; kind(5) = 4; kind(4) = -11; kind(0) = -11
        # 2 row: kind is -1
        row(0, -1, 1) = BAD; row(0, -1, 0) = BAD; kind(0) = -11
        # 2 row: kind is 15
        row(0, 15, 1) = BAD; row(0, 15, 0) = BAD; kind(0) = -11
        # 2 row: kind is the least and the greatest int
        row(0, MIN, 1) = BAD; row(0, MAX, 1) = BAD
        # 2 row: kind is 0 to 6, the first ones
        row(0, 0, 1) = 1; row(1, 1, 1) = 1; row(2, 2, 1) = 1; row(3, 3, 1) = 1; row(4, 4, 1) = 1; row(5, 5, 1) = 1
        kind(0) = 0; kind(1) = 1; kind(2) = 2; kind(3) = 3; kind(4) = 4; kind(5) = 5; row(0, 6, 1) = 1; kind(0) = 6
        # 2 row: kind is 7 to 12, the last arrays
        row(0, 7, 1) = 1; row(1, 8, 1) = 1; row(2, 9, 1) = 1; row(3, 10, 1) = 1; row(4, 11, 1) = 1; row(5, 12, 1) = 1
        kind(0) = 7; kind(1) = 8; kind(2) = 9; kind(3) = 10; kind(4) = 11; kind(5) = 12; size(5) = 1
        # 2 row: kind is 13, a single String
        row(0, 13, 1) = 0; kind(0) = 13; size(0) = -12
        # 2 row: kind is 14, a single Mark
        row(0, 14, 1) = 0; kind(0) = 14; size(0) = -12
        # 2 row: n is 0
        row(0, 0, 0) = 0; size(0) = 0; row(0, 7, 0) = 0; size(0) = 0; row(0, 12, 0) = 0; size(0) = 0; changed(0) = 0
        # 2 row: n is 1
        row(0, 4, 1) = 1; size(0) = 1; what(0, 0) = 4; what(0, 1) = -15
        # 2 row: n is 12
        row(0, 0, 12) = 12; size(0) = 12; what(0, 11) = 0; row(5, 12, 12) = 12; size(5) = 12; what(5, 11) = 11
        # 2 row: n is 13
        row(0, 0, 13) = BAD; row(0, 7, 13) = BAD; row(0, 12, 13) = BAD; kind(0) = -11
        # 2 row: n is the greatest int
        row(0, 4, MAX) = BAD; row(0, 12, MAX) = BAD
        # 2 row: n is -1
        row(0, 0, -1) = -17; row(0, 7, -1) = -17; row(0, 12, -1) = -17; kind(0) = -11
        # 2 row: n is the least int
        row(0, 4, MIN) = -17; row(0, 12, MIN) = -17
        # 2 row: n is ignored for kind 13
        row(0, 13, 13) = 0; row(1, 13, -1) = 0; row(2, 13, MAX) = 0; row(3, 13, MIN) = 0; row(4, 13, 12) = 0; kind(4) = 13
        # 2 row: n is ignored for kind 14
        row(0, 14, 13) = 0; row(1, 14, -1) = 0; row(2, 14, MAX) = 0; row(3, 14, MIN) = 0; row(4, 14, 12) = 0; kind(4) = 14
        # 2 row: BAD for s comes before finding 7
        row(6, 4, -1) = BAD; row(-1, 4, -1) = BAD
        # 2 row: BAD for kind comes before finding 7
        row(0, 15, -1) = BAD; row(0, -1, -1) = BAD
        # 2 row: a refused one leaves what the slot held
        row(0, 5, 2) = 2; row(0, 15, 1) = BAD; row(0, 4, 13) = BAD; row(0, 4, -1) = -17; kind(0) = 5; size(0) = 2
        # 2 row: a negative size is not the fault
        row(0, 4, -1) = -17; fault(0) = NONE; fault(1) = NONE; fault(2) = NONE
        # 2 row: in place of an array another array
        row(0, 4, 3) = 3; row(0, 7, 2) = 2; kind(0) = 7; size(0) = 2; what(0, 1) = 7; what(0, 2) = -15
        # 2 row: in place of an array a single thing, and back
        row(0, 4, 3) = 3; row(0, 14, 3) = 0; size(0) = -12; count(5) = 0; row(0, 4, 2) = 2; size(0) = 2
        # 2 row: in place of an array whose base is not 0, the new elements are 0
        row(0, 4, 2) = 2; change(0, 4, 1, 7) = 1; lay() = 0; settle() = 1; get(0, 8, 1) = 7; row(0, 4, 2) = 2
        get(0, 8, 1) = 0; changed(0) = 0
        # 2 row: in place of a filled object array, the new elements are null
        row(0, 12, 2) = 2; change(0, 16, 1, 7) = 1; lay() = 0; settle() = 1; row(0, 12, 2) = 2; what(0, 1) = 11
        get(0, 8, 1) = !16; changed(0) = 0
        # 2 row: the elements of boolean[], byte[], char[], short[] and int[] are 0 or false at first
        row(0, 0, 1) = 1; row(1, 1, 1) = 1; row(2, 2, 1) = 1; row(3, 3, 1) = 1; row(4, 4, 1) = 1
        get(0, 0, 0) = 0; get(1, 1, 0) = 0; get(2, 2, 0) = 0; get(3, 3, 0) = 0; get(4, 4, 0) = 0
        what(0, 0) = 0; what(1, 0) = 1; what(2, 0) = 2; what(3, 0) = 3; what(4, 0) = 4
        # 2 row: the elements of long[], float[] and double[] are 0 at first
        row(0, 5, 1) = 1; row(1, 6, 1) = 1; row(2, 7, 1) = 1; get(0, 5, 0) = 0; get(1, 6, 0) = 0; get(2, 7, 0) = 0
        what(0, 0) = 5; what(1, 0) = 6; what(2, 0) = 7
        # 2 row: the elements of String[], Mark[], Seal[], Integer[] and Object[] are null at first
        row(0, 8, 1) = 1; row(1, 9, 1) = 1; row(2, 10, 1) = 1; row(3, 11, 1) = 1; row(4, 12, 1) = 1
        what(0, 0) = 11; what(1, 0) = 11; what(2, 0) = 11; what(3, 0) = 11; what(4, 0) = 11
        # 2 row: the last of 12 elements is 0 and null at first, too
        row(0, 4, 12) = 12; row(1, 12, 12) = 12; get(0, 4, 11) = 0; what(1, 11) = 11
        # 2 row: the content of a new array is its base
        row(0, 12, 12) = 12; changed(0) = 0; row(1, 5, 12) = 12; changed(1) = 0; count(5) = 0; since(0, 11) = 0
        # 2 row: the draft, the text, the undone patches and the versions stay
        row(0, 4, 1) = 1; change(0, 4, 0, 1) = 1; lay() = 0; keep() = 0; undo() = 0; change(1, 4, 0, 1) = 1; type(48) = 1
        row(1, 4, 1) = 1; row(0, 5, 1) = 1; count(2) = 1; count(3) = 1; count(4) = 1; flaw() = 1; redo() = 0
        """;

    private static final String ROW_IN_USE = """
        # 2 row: NOT if an applied patch has a change to this slot
        row(0, 4, 1) = 1; change(0, 4, 0, 1) = 1; lay() = 0; row(0, 4, 1) = NOT; row(0, 5, 2) = NOT; row(1, 4, 1) = 1
        # 2 row: NOT if an applied patch has a copy from this slot
        row(0, 4, 1) = 1; row(1, 4, 1) = 1; move(0, 0, 4, 1, 0) = 1; lay() = 0; row(0, 4, 1) = NOT; row(2, 4, 1) = 1
        # 2 row: NOT if an applied patch has a copy to this slot
        row(0, 4, 1) = 1; row(1, 4, 1) = 1; move(0, 0, 4, 1, 0) = 1; lay() = 0; row(1, 4, 1) = NOT
        # 2 row: NOT also for a single thing
        row(0, 4, 1) = 1; change(0, 4, 0, 1) = 1; lay() = 0; row(0, 13, 1) = NOT; row(0, 14, 1) = NOT
        # 2 row: NOT if the change is the last one of the first of several applied patches
        row(0, 4, 1) = 1; row(5, 4, 1) = 1; change(0, 4, 0, 1) = 1; change(5, 4, 0, 1) = 2; lay() = 0
        change(0, 4, 0, 2) = 1; lay() = 1; row(5, 4, 1) = NOT; out(0) = 0; row(5, 4, 1) = 1
        # 2 row: NOT if the change is one of the patch on top
        row(0, 4, 1) = 1; row(5, 4, 1) = 1; change(0, 4, 0, 1) = 1; lay() = 0; change(5, 4, 0, 2) = 1; lay() = 1
        row(5, 4, 1) = NOT; undo() = 1; row(5, 4, 1) = 1
        # 2 row: NOT comes before finding 7
        row(0, 4, 1) = 1; change(0, 4, 0, 1) = 1; lay() = 0; row(0, 4, -1) = NOT; row(0, 4, MIN) = NOT
        # 2 row: BAD for s comes before NOT
        row(0, 4, 1) = 1; change(0, 4, 0, 1) = 1; lay() = 0; row(-1, 4, 1) = BAD; row(6, 4, 1) = BAD
        # 2 row: BAD for n comes before NOT
        row(0, 4, 1) = 1; change(0, 4, 0, 1) = 1; lay() = 0; row(0, 4, 13) = BAD
        # 2 row: BAD for kind comes before NOT
        row(0, 4, 1) = 1; change(0, 4, 0, 1) = 1; lay() = 0; row(0, 15, 1) = BAD; row(0, -1, 1) = BAD
        # 2 row: a change that is only in the draft does not hinder it
        row(0, 4, 1) = 1; row(1, 4, 1) = 1; change(0, 4, 0, 1) = 1; move(1, 0, 4, 0, 0) = 2; row(0, 5, 2) = 2
        row(1, 5, 2) = 2; count(2) = 2
        # 2 row: a patch that is removed does not hinder it
        row(0, 4, 1) = 1; row(1, 4, 1) = 1; move(0, 0, 4, 1, 0) = 1; lay() = 0; undo() = 0; row(0, 5, 2) = 2
        row(1, 6, 2) = 2; kind(0) = 5; kind(1) = 6
        # 2 row: a version does not hinder it
        row(0, 4, 1) = 1; change(0, 4, 0, 1) = 1; lay() = 0; keep() = 0; out(0) = 0; row(0, 14, 2) = 0; go(0) = -12
        # 2 row: a patch whose changes were pruned away does not hinder it
        row(0, 4, 1) = 1; row(1, 4, 1) = 1; move(1, 0, 4, 0, 0) = 1; lay() = 0; change(0, 4, 0, 1) = 1; lay() = 1
        row(1, 5, 1) = NOT; prune() = 1; row(1, 5, 1) = 1; count(1) = 2; row(0, 5, 1) = NOT
        # 2 row: patches that settle() removed do not hinder it
        row(0, 4, 1) = 1; change(0, 4, 0, 1) = 1; lay() = 0; settle() = 1; row(0, 5, 1) = 1; get(0, 5, 0) = 0
        """;

    private static final String LOSE = """
        # 3 lose: s is -1
        lose(-1) = BAD
        # 3 lose: s is 6
        lose(6) = BAD
        # 3 lose: s is the least and the greatest int
        lose(MIN) = BAD; lose(MAX) = BAD
        # 3 lose: s is 0
        row(0, 4, 1) = 1; row(1, 4, 1) = 1; lose(0) = 4; kind(0) = -11; kind(1) = 4
        # 3 lose: s is 5
        row(5, 4, 1) = 1; row(4, 4, 1) = 1; lose(5) = 4; kind(5) = -11; kind(4) = 4
        # 3 lose: finding 1 for a slot that was never filled
        lose(0) = -11; lose(5) = -11; fault(2) = NONE
        # 3 lose: finding 1 the second time
        row(0, 4, 1) = 1; lose(0) = 4; lose(0) = -11
        # 3 lose: the kind of every array
        row(0, 0, 1) = 1; lose(0) = 0; row(0, 1, 1) = 1; lose(0) = 1; row(0, 2, 1) = 1; lose(0) = 2; row(0, 3, 1) = 1
        lose(0) = 3; row(0, 4, 1) = 1; lose(0) = 4; row(0, 5, 1) = 1; lose(0) = 5; row(0, 6, 1) = 1; lose(0) = 6
        row(0, 7, 1) = 1; lose(0) = 7; row(0, 8, 1) = 1; lose(0) = 8; row(0, 9, 1) = 1; lose(0) = 9; row(0, 10, 1) = 1
        lose(0) = 10; row(0, 11, 1) = 1; lose(0) = 11; row(0, 12, 1) = 1; lose(0) = 12; row(0, 12, 0) = 0; lose(0) = 12
        # 3 lose: the kind of a single String and a single Mark
        row(0, 13, 1) = 0; lose(0) = 13; kind(0) = -11; row(0, 14, 1) = 0; lose(0) = 14; kind(0) = -11
        # 3 lose: NOT if an applied patch has a change to this slot
        row(0, 4, 1) = 1; change(0, 4, 0, 1) = 1; lay() = 0; lose(0) = NOT; kind(0) = 4
        # 3 lose: NOT if an applied patch has a copy from this slot
        row(0, 4, 1) = 1; row(1, 4, 1) = 1; move(0, 0, 4, 1, 0) = 1; lay() = 0; lose(0) = NOT
        # 3 lose: NOT if an applied patch has a copy to this slot
        row(0, 4, 1) = 1; row(1, 4, 1) = 1; move(0, 0, 4, 1, 0) = 1; lay() = 0; lose(1) = NOT
        # 3 lose: BAD for s comes before NOT
        row(0, 4, 1) = 1; change(0, 4, 0, 1) = 1; lay() = 0; lose(-1) = BAD; lose(6) = BAD
        # 3 lose: a change that is only in the draft does not hinder it
        row(0, 4, 1) = 1; change(0, 4, 0, 1) = 1; lose(0) = 4; preview(0) = 1
        # 3 lose: a patch that is removed does not hinder it
        row(0, 4, 1) = 1; change(0, 4, 0, 1) = 1; lay() = 0; undo() = 0; lose(0) = 4; redo() = -11
        # 3 lose: what the array held is gone
        row(0, 12, 2) = 2; change(0, 16, 1, 7) = 1; lay() = 0; settle() = 1; lose(0) = 12; count(5) = 0; row(0, 12, 2) = 2
        what(0, 1) = 11; changed(0) = 0
        # 3 lose: the undone patches and the versions stay
        row(0, 4, 1) = 1; change(0, 4, 0, 1) = 1; lay() = 0; keep() = 0; undo() = 0; lose(0) = 4; count(3) = 1
        count(4) = 1; row(0, 4, 1) = 1; redo() = 0; go(0) = 1
        """;

    private static final String KIND = """
        # 4 kind: s is -1
        kind(-1) = BAD
        # 4 kind: s is 6
        kind(6) = BAD
        # 4 kind: s is the least and the greatest int
        kind(MIN) = BAD; kind(MAX) = BAD
        # 4 kind: s is 0 and 5
        row(0, 3, 1) = 1; row(5, 9, 1) = 1; kind(0) = 3; kind(5) = 9
        # 4 kind: finding 1
        kind(0) = -11; row(0, 3, 1) = 1; lose(0) = 3; kind(0) = -11; fault(2) = NONE
        # 4 kind: 0, the least one
        row(2, 0, 1) = 1; kind(2) = 0
        # 4 kind: 13 and 14, no array
        row(2, 13, 1) = 0; kind(2) = 13; row(2, 14, 1) = 0; kind(2) = 14
        """;

    private static final String SIZE = """
        # 5 size: s is -1
        size(-1) = BAD
        # 5 size: s is 6
        size(6) = BAD
        # 5 size: s is the least and the greatest int
        size(MIN) = BAD; size(MAX) = BAD
        # 5 size: s is 0 and 5
        row(0, 3, 7) = 7; row(5, 9, 8) = 8; size(0) = 7; size(5) = 8
        # 5 size: finding 1
        size(0) = -11; row(0, 4, 3) = 3; lose(0) = 4; size(0) = -11; fault(2) = NONE
        # 5 size: finding 2 of a single String
        row(0, 13, 5) = 0; size(0) = -12; fault(2) = NONE
        # 5 size: finding 2 of a single Mark
        row(0, 14, 5) = 0; size(0) = -12
        # 5 size: 0 elements
        row(0, 4, 0) = 0; size(0) = 0
        # 5 size: 12 elements
        row(0, 12, 12) = 12; size(0) = 12
        """;

    private static final String GET_ERRORS = """
        # 6 get: s is -1
        get(-1, 8, 0) = !2
        # 6 get: s is 6
        get(6, 8, 0) = !2
        # 6 get: s is the least and the greatest int
        get(MIN, 8, 0) = !2; get(MAX, 8, 0) = !2
        # 6 get: s is 0 and 5
        row(0, 4, 1) = 1; row(5, 4, 1) = 1; change(5, 4, 0, 3) = 1; lay() = 0; get(0, 4, 0) = 0; get(5, 4, 0) = 3
        # 6 get: way is -1
        row(0, 4, 1) = 1; get(0, -1, 0) = !2
        # 6 get: way is 9
        row(0, 4, 1) = 1; get(0, 9, 0) = !2
        # 6 get: way is the least and the greatest int
        row(0, 4, 1) = 1; get(0, MIN, 0) = !2; get(0, MAX, 0) = !2
        # 6 get: way is 0 and 8
        row(0, 0, 1) = 1; get(0, 0, 0) = 0; get(0, 8, 0) = 0
        # 6 get: BAD for way comes before finding 1
        get(0, 9, 0) = !2; get(0, -1, 0) = !2
        # 6 get: BAD is not counted
        row(0, 4, 1) = 1; get(6, 4, 0) = !2; get(-1, 4, 0) = !2; get(0, 9, 0) = !2; met(4, 0) = 0; met(4, 1) = 0; met(8, 0) = 0
        # 6 get: finding 1
        get(0, 8, 0) = !11; met(8, 1) = 1
        # 6 get: finding 1 comes before 5
        get(0, 4, -1) = !11; get(0, 8, 12) = !11; get(0, 0, MAX) = !11
        # 6 get: finding 2 of a single String
        row(0, 13, 0) = 0; get(0, 8, 0) = !12; met(8, 2) = 1
        # 6 get: finding 2 of a single Mark
        row(0, 14, 0) = 0; get(0, 8, 0) = !12; get(0, 8, 1) = !12
        # 6 get: finding 2 comes before 3 and 5
        row(0, 13, 0) = 0; get(0, 0, 0) = !12; get(0, 7, -1) = !12; row(0, 14, 0) = 0; get(0, 4, 0) = !12; get(0, 8, MIN) = !12
        # 6 get: finding 3 by ways 0 and 7 from every object array
        row(0, 8, 1) = 1; row(1, 9, 1) = 1; row(2, 10, 1) = 1; row(3, 11, 1) = 1; row(4, 12, 1) = 1
        get(0, 0, 0) = !13; get(0, 7, 0) = !13; get(1, 0, 0) = !13; get(1, 7, 0) = !13; get(2, 0, 0) = !13
        get(2, 7, 0) = !13; get(3, 0, 0) = !13; get(3, 7, 0) = !13; get(4, 0, 0) = !13; get(4, 7, 0) = !13; met(7, 3) = 5
        # 6 get: finding 3 also if the object would widen
        row(0, 11, 1) = 1; row(1, 12, 1) = 1; change(0, 12, 0, 5) = 1; change(1, 12, 0, 5) = 2; lay() = 0
        get(0, 4, 0) = !13; get(1, 4, 0) = !13; get(1, 5, 0) = !13; get(1, 8, 0) = 5
        # 6 get: finding 3 comes before 5
        row(0, 12, 1) = 1; get(0, 4, 1) = !13; get(0, 4, -1) = !13; row(1, 8, 0) = 0; get(1, 0, 0) = !13
        # 6 get: finding 3 comes before 6
        row(0, 12, 1) = 1; get(0, 4, 0) = !13
        # 6 get: finding 4
        row(0, 4, 1) = 1; get(0, 3, 0) = !14; met(3, 4) = 1
        # 6 get: finding 4 comes before 5
        row(0, 4, 1) = 1; get(0, 3, 1) = !14; get(0, 0, -1) = !14; get(0, 1, MAX) = !14
        # 6 get: finding 5 at the index -1
        row(0, 4, 2) = 2; get(0, 4, -1) = !15; get(0, 8, -1) = !15; met(4, 5) = 1; met(8, 5) = 1
        # 6 get: finding 5 at the index that is the size
        row(0, 4, 2) = 2; get(0, 4, 2) = !15; get(0, 8, 2) = !15; get(0, 7, 2) = !15
        # 6 get: finding 5 at the least and the greatest index
        row(0, 4, 2) = 2; get(0, 4, MIN) = !15; get(0, 4, MAX) = !15; get(0, 8, MIN) = !15; get(0, 8, MAX) = !15
        # 6 get: finding 5 at the index 12 of 12 elements
        row(0, 4, 12) = 12; row(1, 4, 12) = 12; get(0, 4, 12) = !15; get(0, 4, 11) = 0
        # 6 get: finding 5 in an array without elements
        row(0, 4, 0) = 0; get(0, 4, 0) = !15; row(1, 12, 0) = 0; get(1, 8, 0) = !15
        # 6 get: finding 5 where an array before it had an element
        row(0, 4, 5) = 5; row(0, 4, 2) = 2; get(0, 4, 2) = !15; get(0, 4, 4) = !15; get(0, 4, 1) = 0
        # 6 get: finding 6 of null in every object array
        row(0, 8, 1) = 1; row(1, 9, 1) = 1; row(2, 10, 1) = 1; row(3, 11, 1) = 1; row(4, 12, 1) = 1; get(0, 8, 0) = !16
        get(1, 8, 0) = !16; get(2, 8, 0) = !16; get(3, 8, 0) = !16; get(4, 8, 0) = !16; met(8, 0) = 5
        # 6 get: finding 5 comes before 6
        row(0, 12, 1) = 1; get(0, 8, 1) = !15; get(0, 8, -1) = !15
        # 6 get: finding 6 of a null that was written over a value
        row(0, 12, 1) = 1; change(0, 16, 0, 5) = 1; lay() = 0; get(0, 8, 0) = 5; change(0, 19, 0, 5) = 1; lay() = 1
        get(0, 8, 0) = !16
        # 6 get: findings are not the fault
        get(0, 8, 0) = !11; row(0, 14, 0) = 0; get(0, 8, 0) = !12; row(0, 12, 1) = 1; get(0, 0, 0) = !13; get(0, 8, 1) = !15
        get(0, 8, 0) = !16; fault(0) = NONE; fault(1) = NONE; fault(2) = NONE
        """;

    private static final String GET_NUMBERS = """
        # 6 get: a boolean is 1 if v is odd, also if it is negative
        row(0, 0, 6) = 6; change(0, 0, 0, 1) = 1; change(0, 0, 1, -1) = 2; change(0, 0, 2, MAX) = 3; change(0, 0, 3, MIN) = 4
        change(0, 0, 4, 2) = 5; change(0, 0, 5, -3) = 6; lay() = 0; get(0, 0, 0) = 1; get(0, 0, 1) = 1; get(0, 0, 2) = 1
        get(0, 0, 3) = 0; get(0, 0, 4) = 0; get(0, 0, 5) = 1
        # 6 get: a byte wraps around at 128 and -129
        row(0, 1, 6) = 6; change(0, 1, 0, 127) = 1; change(0, 1, 1, 128) = 2; change(0, 1, 2, -128) = 3
        change(0, 1, 3, -129) = 4; change(0, 1, 4, 256) = 5; change(0, 1, 5, 255) = 6; lay() = 0; get(0, 1, 0) = 127
        get(0, 1, 1) = -128; get(0, 1, 2) = -128; get(0, 1, 3) = 127; get(0, 1, 4) = 0; get(0, 1, 5) = -1
        # 6 get: a char wraps around at 65536 and -1
        row(0, 2, 5) = 5; change(0, 2, 0, 65535) = 1; change(0, 2, 1, 65536) = 2; change(0, 2, 2, -1) = 3
        change(0, 2, 3, 32768) = 4; change(0, 2, 4, -65536) = 5; lay() = 0; get(0, 2, 0) = 65535; get(0, 2, 1) = 0
        get(0, 2, 2) = 65535; get(0, 2, 3) = 32768; get(0, 2, 4) = 0
        # 6 get: a short wraps around at 32768 and -32769
        row(0, 3, 5) = 5; change(0, 3, 0, 32767) = 1; change(0, 3, 1, 32768) = 2; change(0, 3, 2, -32768) = 3
        change(0, 3, 3, -32769) = 4; change(0, 3, 4, 65535) = 5; lay() = 0; get(0, 3, 0) = 32767; get(0, 3, 1) = -32768
        get(0, 3, 2) = -32768; get(0, 3, 3) = 32767; get(0, 3, 4) = -1
        # 6 get: the least and the greatest int
        row(0, 4, 2) = 2; change(0, 4, 0, MIN) = 1; change(0, 4, 1, MAX) = 2; lay() = 0; get(0, 4, 0) = -2147483648
        get(0, 4, 1) = 2147483647
        # 6 get: a long is the product as a long, without the int's wrap-around
        row(0, 5, 4) = 4; change(0, 5, 0, 40) = 1; change(0, 5, 1, -1) = 2; change(0, 5, 2, MIN) = 3; change(0, 5, 3, MAX) = 4
        lay() = 0; get(0, 5, 0) = 4000000280; get(0, 5, 1) = -100000007; get(0, 5, 2) = -214748379832385536
        get(0, 5, 3) = 214748379732385529
        # 6 get: a float is rounded from 16777217 on
        row(0, 6, 5) = 5; change(0, 6, 0, 16777215) = 1; change(0, 6, 1, 16777216) = 2; change(0, 6, 2, 16777217) = 3
        change(0, 6, 3, 16777219) = 4; change(0, 6, 4, -16777217) = 5; lay() = 0; get(0, 6, 0) = 16777215
        get(0, 6, 1) = 16777216; get(0, 6, 2) = 16777216; get(0, 6, 3) = 16777220; get(0, 6, 4) = -16777216
        # 6 get: the floats of the least and the greatest int
        row(0, 6, 2) = 2; change(0, 6, 0, MIN) = 1; change(0, 6, 1, MAX) = 2; lay() = 0; get(0, 6, 0) = -2147483648
        get(0, 6, 1) = 2147483648
        # 6 get: a double is an eighth of any int
        row(0, 7, 4) = 4; change(0, 7, 0, MIN) = 1; change(0, 7, 1, MAX) = 2; change(0, 7, 2, 16777217) = 3
        change(0, 7, 3, -1) = 4; lay() = 0; get(0, 7, 0) = -2147483648; get(0, 7, 1) = 2147483647; get(0, 7, 2) = 16777217
        get(0, 7, 3) = -1
        # 6 get: a String has a number up to 77
        row(0, 8, 6) = 6; change(0, 16, 0, 0) = 1; change(0, 16, 1, 77) = 2; change(0, 16, 2, 78) = 3; change(0, 16, 3, 155) = 4
        change(0, 16, 4, 156) = 5; change(0, 16, 5, 79) = 6; lay() = 0; get(0, 8, 0) = 0; get(0, 8, 1) = 77; get(0, 8, 2) = 0
        get(0, 8, 3) = 77; get(0, 8, 4) = 0; get(0, 8, 5) = 1
        # 6 get: a String of a negative int
        row(0, 8, 3) = 3; change(0, 16, 0, -1) = 1; change(0, 16, 1, MIN) = 2; change(0, 16, 2, MAX) = 3; lay() = 0
        get(0, 8, 0) = 49; get(0, 8, 1) = 0; get(0, 8, 2) = 49
        # 6 get: a Mark and a Seal of the least and the greatest int
        row(0, 9, 2) = 2; row(1, 10, 2) = 2; change(0, 17, 0, MIN) = 1; change(0, 17, 1, MAX) = 2; change(1, 18, 0, MIN) = 3
        change(1, 18, 1, MAX) = 4; lay() = 0; get(0, 8, 0) = -2147483648; get(0, 8, 1) = 2147483647
        get(1, 8, 0) = -2147483648; get(1, 8, 1) = 2147483647
        # 6 get: a null has no number, whatever v is
        row(0, 12, 3) = 3; change(0, 19, 0, 5) = 1; change(0, 19, 1, MIN) = 2; change(0, 19, 2, -1) = 3; lay() = 0
        get(0, 8, 0) = !16; get(0, 8, 1) = !16; get(0, 8, 2) = !16; count(5) = 0
        # 6 get: numbers that look like errors are numbers
        row(0, 4, 5) = 5; change(0, 4, 0, -1) = 1; change(0, 4, 1, -2) = 2; change(0, 4, 2, -3) = 3; change(0, 4, 3, -15) = 4
        lay() = 0; get(0, 4, 0) = -1; get(0, 4, 1) = -2; get(0, 4, 2) = -3; get(0, 4, 3) = -15; get(0, 8, 3) = -15
        """;

    private static final String GET_WIDENED = """
        # 6 get: the least byte in all the types that it widens to
        row(0, 1, 1) = 1; change(0, 1, 0, -128) = 1; lay() = 0; get(0, 1, 0) = -128; get(0, 3, 0) = -128; get(0, 4, 0) = -128
        get(0, 5, 0) = -128; get(0, 6, 0) = -1024; get(0, 7, 0) = -1024; get(0, 8, 0) = -128
        # 6 get: the greatest char in all the types that it widens to
        row(0, 2, 1) = 1; change(0, 2, 0, 65535) = 1; lay() = 0; get(0, 2, 0) = 65535; get(0, 4, 0) = 65535
        get(0, 5, 0) = 65535; get(0, 6, 0) = 524280; get(0, 7, 0) = 524280; get(0, 8, 0) = 65535
        # 6 get: the least short in all the types that it widens to
        row(0, 3, 1) = 1; change(0, 3, 0, -32768) = 1; lay() = 0; get(0, 3, 0) = -32768; get(0, 4, 0) = -32768
        get(0, 5, 0) = -32768; get(0, 6, 0) = -262144; get(0, 7, 0) = -262144; get(0, 8, 0) = -32768
        # 6 get: the greatest int in all the types that it widens to, rounded as a float
        row(0, 4, 1) = 1; change(0, 4, 0, MAX) = 1; lay() = 0; get(0, 4, 0) = 2147483647; get(0, 5, 0) = 2147483647
        get(0, 6, 0) = 17179869184; get(0, 7, 0) = 17179869176; get(0, 8, 0) = 2147483647
        # 6 get: the first int that a float rounds, and the next odd one, which it rounds up
        row(0, 4, 2) = 2; change(0, 4, 0, 16777217) = 1; change(0, 4, 1, 16777219) = 2; lay() = 0; get(0, 6, 0) = 134217728
        get(0, 7, 0) = 134217736; get(0, 6, 1) = 134217760; get(0, 7, 1) = 134217752
        # 6 get: a long that a float and a double round
        row(0, 5, 2) = 2; change(0, 5, 0, MAX) = 1; change(0, 5, 1, MIN) = 2; lay() = 0; get(0, 5, 0) = 214748379732385529
        get(0, 6, 0) = 1717987055838953472; get(0, 7, 0) = 1717987037859084288; get(0, 6, 1) = -1717987055838953472
        get(0, 7, 1) = -1717987038659084288
        # 6 get: a float as a double
        row(0, 6, 2) = 2; change(0, 6, 0, 16777217) = 1; change(0, 6, 1, -3) = 2; lay() = 0; get(0, 7, 0) = 16777216
        get(0, 7, 1) = -3; get(0, 8, 1) = -3
        # 6 get: a narrower value that was written has the array's type, and is read as that
        row(0, 5, 1) = 1; row(1, 7, 2) = 2; change(0, 1, 0, 200) = 1; change(1, 5, 0, MAX) = 2; change(1, 6, 1, 16777217) = 3
        lay() = 0; get(0, 5, 0) = -56; get(0, 4, 0) = !14; get(1, 7, 0) = 1717987037859084288; get(1, 6, 0) = !14
        get(1, 7, 1) = 16777216
        """;

    private static final String GET_OBJECTS = """
        # 6 get: every type of wrapper object in Object[]
        row(0, 12, 6) = 6; row(1, 12, 2) = 2; change(0, 8, 0, -1) = 1; change(0, 9, 1, 200) = 2; change(0, 10, 2, -1) = 3
        change(0, 11, 3, 40000) = 4; change(0, 12, 4, MIN) = 5; change(0, 13, 5, -2) = 6; lay() = 0
        change(1, 14, 0, 16777217) = 1; change(1, 15, 1, 16777217) = 2; lay() = 1
        get(0, 8, 0) = 1; get(0, 8, 1) = -56; get(0, 8, 2) = 65535; get(0, 8, 3) = -25536; get(0, 8, 4) = -2147483648
        get(0, 8, 5) = -200000014; get(1, 8, 0) = 16777216; get(1, 8, 1) = 16777217
        # 6 get: Integer[] keeps an int
        row(0, 11, 1) = 1; change(0, 12, 0, MIN) = 1; lay() = 0; get(0, 8, 0) = -2147483648
        # 6 get: the elements of an array do not stand in another one's
        row(0, 4, 12) = 12; row(1, 4, 12) = 12; row(2, 4, 12) = 12; change(1, 4, 0, 5) = 1; change(1, 4, 11, 6) = 2; lay() = 0
        get(0, 4, 11) = 0; get(0, 4, 0) = 0; get(2, 4, 0) = 0; get(2, 4, 11) = 0; get(1, 4, 0) = 5; get(1, 4, 11) = 6
        """;

    /** A column for each kind 0 to 14, and one for an empty slot; a digit is the finding. */
    private static void readingWays() {
        readingWay("6 get: way 0 from boolean[] alone", 0, "0444444433333221");
        readingWay("6 get: way 1 from byte[] alone", 1, "4044444433333221");
        readingWay("6 get: way 2 from char[] alone, a byte is no char", 2, "4404444433333221");
        readingWay("6 get: way 3 from byte[] and short[], a char is no short", 3, "4040444433333221");
        readingWay("6 get: way 4 from byte[], char[], short[] and int[]", 4, "4000044433333221");
        readingWay("6 get: way 5 from these and long[]", 5, "4000004433333221");
        readingWay("6 get: way 6 from these and float[], also from long[]", 6, "4000000433333221");
        readingWay("6 get: way 7 from all but boolean[]", 7, "4000000033333221");
        readingWay("6 get: way 8 from every array", 8, "0000000066666221");
    }

    private static void readingWay(String name, int way, String findings) {
        Cases.noteName(name);
        PatchDesk desk = new PatchDesk();
        for (int kind = 0; kind <= 15; kind++) {
            if (kind == 15) {
                desk.lose(0);
            } else {
                desk.row(0, kind, 1);
            }
            int finding = findings.charAt(kind) - '0';
            Calls.due(name, "of kind " + kind, desk.get(0, way, 0), finding == 0 ? 0 : Long.MIN_VALUE + 10 + finding);
            int counted = 0;
            for (int before = 0; before <= kind; before++) {
                counted += findings.charAt(before) % 6 == findings.charAt(kind) % 6 ? 1 : 0;
            }
            Calls.due(name, "met(" + way + ", ..) after kind " + kind, desk.met(way, finding % 6), counted);
        }
    }

    private static void strings() {
        Cases.noteName("6 get: no two of the 78 Strings have the same number");
        PatchDesk desk = new PatchDesk();
        desk.row(0, 8, 1);
        for (int v = 0; v < 78; v++) {
            desk.change(0, 16, 0, v);
            desk.lay();
            Calls.due("6 get", "String " + v, desk.get(0, 8, 0), v);
            desk.settle();
        }
    }

    private static final String WHAT = """
        # 7 what: s is -1
        what(-1, 0) = BAD
        # 7 what: s is 6
        what(6, 0) = BAD
        # 7 what: s is the least and the greatest int
        what(MIN, 0) = BAD; what(MAX, 0) = BAD
        # 7 what: s is 0 and 5
        row(0, 3, 1) = 1; row(5, 7, 1) = 1; what(0, 0) = 3; what(5, 0) = 7
        # 7 what: BAD comes before finding 5
        what(6, -1) = BAD; what(-1, 12) = BAD
        # 7 what: finding 1, before 5
        what(0, 0) = -11; what(0, -1) = -11; what(0, 12) = -11; fault(2) = NONE
        # 7 what: finding 2 of a single String, before 5
        row(0, 13, 1) = 0; what(0, 0) = -12; what(0, 1) = -12; what(0, -1) = -12
        # 7 what: finding 2 of a single Mark, before 5
        row(0, 14, 1) = 0; what(0, 0) = -12; what(0, 1) = -12; what(0, -1) = -12
        # 7 what: finding 5 at the index -1
        row(0, 4, 2) = 2; row(1, 4, 2) = 2; what(1, -1) = -15; what(0, -1) = -15
        # 7 what: finding 5 at the index that is the size
        row(0, 4, 2) = 2; what(0, 1) = 4; what(0, 2) = -15; row(1, 4, 12) = 12; what(1, 11) = 4; what(1, 12) = -15
        # 7 what: finding 5 at the least and the greatest index
        row(0, 4, 2) = 2; what(0, MIN) = -15; what(0, MAX) = -15
        # 7 what: finding 5 in an array without elements
        row(0, 4, 0) = 0; what(0, 0) = -15
        # 7 what: it is not counted by met()
        row(0, 4, 1) = 1; what(0, 0) = 4; what(0, 9) = -15; what(1, 0) = -11; met(8, 0) = 0; met(8, 5) = 0; met(8, 1) = 0
        # 7 what: 0 to 5 in primitive arrays
        row(0, 0, 1) = 1; row(1, 1, 1) = 1; row(2, 2, 1) = 1; row(3, 3, 1) = 1; row(4, 4, 1) = 1; row(5, 5, 1) = 1
        what(0, 0) = 0; what(1, 0) = 1; what(2, 0) = 2; what(3, 0) = 3; what(4, 0) = 4; what(5, 0) = 5
        # 7 what: 6 and 7 in primitive arrays
        row(0, 6, 1) = 1; row(1, 7, 1) = 1; what(0, 0) = 6; what(1, 0) = 7
        # 7 what: 0 to 5 of wrapper objects
        row(0, 12, 6) = 6; change(0, 8, 0, 1) = 1; change(0, 9, 1, 1) = 2; change(0, 10, 2, 1) = 3; change(0, 11, 3, 1) = 4
        change(0, 12, 4, 1) = 5; change(0, 13, 5, 1) = 6; lay() = 0; what(0, 0) = 0; what(0, 1) = 1; what(0, 2) = 2
        what(0, 3) = 3; what(0, 4) = 4; what(0, 5) = 5
        # 7 what: 6 and 7 of wrapper objects, 8 of a String, 11 of null in Object[]
        row(0, 12, 4) = 4; change(0, 14, 0, 1) = 1; change(0, 15, 1, 1) = 2; change(0, 16, 2, 1) = 3; change(0, 16, 3, 1) = 4
        change(0, 19, 3, 1) = 5; lay() = 0; what(0, 0) = 6; what(0, 1) = 7; what(0, 2) = 8; what(0, 3) = 11
        # 7 what: an int in Integer[] has type 4, which is not the kind
        row(0, 11, 1) = 1; change(0, 12, 0, 1) = 1; lay() = 0; what(0, 0) = 4
        # 7 what: a Mark and a Seal in Mark[], a Seal in Seal[]
        row(0, 9, 2) = 2; row(1, 10, 1) = 1; change(0, 17, 0, 1) = 1; change(0, 18, 1, 1) = 2; change(1, 18, 0, 1) = 3
        lay() = 0; what(0, 0) = 9; what(0, 1) = 10; what(1, 0) = 10
        # 7 what: a Mark and a Seal by ways 20 and 21
        row(0, 9, 2) = 2; change(0, 20, 0, 1) = 1; change(0, 21, 1, 1) = 2; lay() = 0; what(0, 0) = 9; what(0, 1) = 10
        # 7 what: a value that is written into a primitive array has the array's type
        row(0, 5, 1) = 1; row(1, 7, 2) = 2; row(2, 6, 1) = 1; change(0, 1, 0, 3) = 1; change(1, 9, 0, 3) = 2
        change(1, 5, 1, 3) = 3; change(2, 10, 0, 3) = 4; lay() = 0; what(0, 0) = 5; what(1, 0) = 7; what(1, 1) = 7; what(2, 0) = 6
        """;

    private static final String BITS = """
        # 8 bits: s is -1
        bits(-1, 0) = !2
        # 8 bits: s is 6
        bits(6, 0) = !2
        # 8 bits: s is the least and the greatest int
        bits(MIN, 0) = !2; bits(MAX, 0) = !2
        # 8 bits: s is 0 and 5
        row(0, 6, 1) = 1; row(5, 7, 1) = 1; change(5, 7, 0, 8) = 1; lay() = 0; bits(0, 0) = 0; bits(5, 0) = 4607182418800017408
        # 8 bits: finding 1, before 5
        bits(0, 0) = !11; bits(0, -1) = !11; fault(2) = NONE
        # 8 bits: finding 2 of a single String, before 5
        row(0, 13, 1) = 0; bits(0, 0) = !12; bits(0, 1) = !12
        # 8 bits: finding 2 of a single Mark, before 5
        row(0, 14, 1) = 0; bits(0, 0) = !12; bits(0, -1) = !12
        # 8 bits: finding 5 at the index -1 and at the size
        row(0, 6, 2) = 2; bits(0, -1) = !15; bits(0, 2) = !15; bits(0, 1) = 0; row(1, 7, 12) = 12; bits(1, 12) = !15; bits(1, 11) = 0
        # 8 bits: finding 5 at the least and the greatest index, and in an array without elements
        row(0, 6, 2) = 2; bits(0, MIN) = !15; bits(0, MAX) = !15; row(1, 7, 0) = 0; bits(1, 0) = !15
        # 8 bits: finding 5 comes before NOT
        row(0, 4, 2) = 2; bits(0, 2) = !15; bits(0, -1) = !15; row(1, 12, 1) = 1; bits(1, 1) = !15
        # 8 bits: NOT in every other primitive array
        row(0, 0, 1) = 1; row(1, 1, 1) = 1; row(2, 2, 1) = 1; row(3, 3, 1) = 1; row(4, 4, 1) = 1; row(5, 5, 1) = 1
        bits(0, 0) = !3; bits(1, 0) = !3; bits(2, 0) = !3; bits(3, 0) = !3; bits(4, 0) = !3; bits(5, 0) = !3
        # 8 bits: NOT for null in every object array
        row(0, 8, 1) = 1; row(1, 9, 1) = 1; row(2, 10, 1) = 1; row(3, 11, 1) = 1; row(4, 12, 1) = 1
        bits(0, 0) = !3; bits(1, 0) = !3; bits(2, 0) = !3; bits(3, 0) = !3; bits(4, 0) = !3
        # 8 bits: NOT for objects that are no float or double
        row(0, 12, 5) = 5; row(1, 9, 2) = 2; row(2, 11, 1) = 1; change(0, 8, 0, 1) = 1; change(0, 13, 1, 8) = 2
        change(0, 16, 2, 8) = 3; change(1, 17, 0, 8) = 4; change(1, 18, 1, 8) = 5; change(2, 12, 0, 8) = 6; lay() = 0
        bits(0, 0) = !3; bits(0, 1) = !3; bits(0, 2) = !3; bits(1, 0) = !3; bits(1, 1) = !3; bits(2, 0) = !3
        # 8 bits: 0
        row(0, 6, 1) = 1; row(1, 7, 1) = 1; change(0, 6, 0, 0) = 1; change(1, 7, 0, 0) = 2; lay() = 0; bits(0, 0) = 0; bits(1, 0) = 0
        # 8 bits: 1 and -1
        row(0, 6, 2) = 2; row(1, 7, 2) = 2; change(0, 6, 0, 8) = 1; change(0, 6, 1, -8) = 2; change(1, 7, 0, 8) = 3
        change(1, 7, 1, -8) = 4; lay() = 0; bits(0, 0) = 1065353216; bits(0, 1) = -1082130432
        bits(1, 0) = 4607182418800017408; bits(1, 1) = -4616189618054758400
        # 8 bits: an eighth and less 0 by an eighth
        row(0, 6, 2) = 2; row(1, 7, 2) = 2; change(0, 6, 0, 1) = 1; change(0, 6, 1, -1) = 2; change(1, 7, 0, 1) = 3
        change(1, 7, 1, -1) = 4; lay() = 0; bits(0, 0) = 1040187392; bits(0, 1) = -1107296256
        bits(1, 0) = 4593671619917905920; bits(1, 1) = -4629700416936869888
        # 8 bits: the floats and doubles of the least and the greatest int
        row(0, 6, 2) = 2; row(1, 7, 2) = 2; change(0, 6, 0, MIN) = 1; change(0, 6, 1, MAX) = 2; change(1, 7, 0, MIN) = 3
        change(1, 7, 1, MAX) = 4; lay() = 0; bits(0, 0) = -847249408; bits(0, 1) = 1300234240
        bits(1, 0) = -4490088828488384512; bits(1, 1) = 4733283208362196992
        # 8 bits: the first ints that a float rounds
        row(0, 6, 3) = 3; change(0, 6, 0, 16777216) = 1; change(0, 6, 1, 16777217) = 2; change(0, 6, 2, 16777219) = 3
        lay() = 0; bits(0, 0) = 1241513984; bits(0, 1) = 1241513984; bits(0, 2) = 1241513986
        # 8 bits: the greatest numbers, made of a long
        row(0, 6, 2) = 2; row(1, 7, 2) = 2; change(0, 5, 0, MAX) = 1; change(0, 5, 1, MIN) = 2; change(1, 5, 0, MAX) = 3
        change(1, 5, 1, MIN) = 4; lay() = 0; bits(0, 0) = 1547615265; bits(0, 1) = -599868383
        bits(1, 0) = 4866094884799402232; bits(1, 1) = -4357277152052248576
        # 8 bits: a Float and a Double in Object[]
        row(0, 12, 2) = 2; change(0, 14, 0, -8) = 1; change(0, 15, 1, -8) = 2; lay() = 0; bits(0, 0) = -1082130432
        bits(0, 1) = -4616189618054758400
        # 8 bits: the element as it is after undo()
        row(0, 6, 1) = 1; row(1, 7, 1) = 1; change(0, 6, 0, 8) = 1; lay() = 0; change(0, 6, 0, -8) = 1; change(1, 7, 0, 8) = 2
        lay() = 1; undo() = 1; bits(0, 0) = 1065353216; bits(1, 0) = 0
        # 8 bits: a float in double[] is a double
        row(0, 7, 1) = 1; change(0, 6, 0, 8) = 1; lay() = 0; bits(0, 0) = 4607182418800017408
        """;

    private static final String CHANGED = """
        # 9 changed: s is -1
        changed(-1) = BAD
        # 9 changed: s is 6
        changed(6) = BAD
        # 9 changed: s is the least and the greatest int
        changed(MIN) = BAD; changed(MAX) = BAD
        # 9 changed: s is 0 and 5
        row(0, 4, 1) = 1; row(5, 4, 1) = 1; change(5, 4, 0, 1) = 1; lay() = 0; changed(0) = 0; changed(5) = 1
        # 9 changed: finding 1
        changed(0) = -11; fault(2) = NONE
        # 9 changed: finding 2 of a single String and a single Mark
        row(0, 13, 1) = 0; changed(0) = -12; row(0, 14, 1) = 0; changed(0) = -12
        # 9 changed: no elements
        row(0, 4, 0) = 0; changed(0) = 0
        # 9 changed: all 12 elements
        row(0, 4, 12) = 12; change(0, 4, 0, 1) = 1; change(0, 4, 1, 1) = 2; change(0, 4, 2, 1) = 3; change(0, 4, 3, 1) = 4
        change(0, 4, 4, 1) = 5; change(0, 4, 5, 1) = 6; lay() = 0; change(0, 4, 6, 1) = 1; change(0, 4, 7, 1) = 2
        change(0, 4, 8, 1) = 3; change(0, 4, 9, 1) = 4; change(0, 4, 10, 1) = 5; changed(0) = 6; change(0, 4, 11, 1) = 6; lay() = 1
        changed(0) = 12; undo() = 1; changed(0) = 6
        # 9 changed: a value equal to the base's was written
        row(0, 4, 1) = 1; change(0, 4, 0, 0) = 1; lay() = 0; changed(0) = 0
        # 9 changed: null was written over null
        row(0, 12, 1) = 1; change(0, 19, 0, 7) = 1; lay() = 0; changed(0) = 0
        # 9 changed: a value with the number 0 was written over null
        row(0, 12, 2) = 2; change(0, 12, 0, 0) = 1; change(0, 16, 1, 0) = 2; lay() = 0; changed(0) = 2
        # 9 changed: null was written over a value with the number 0
        row(0, 12, 1) = 1; change(0, 12, 0, 0) = 1; lay() = 0; settle() = 1; change(0, 19, 0, 0) = 1; lay() = 0; changed(0) = 1
        # 9 changed: the same number with another type
        row(0, 12, 1) = 1; change(0, 12, 0, 5) = 1; lay() = 0; settle() = 1; change(0, 13, 0, 0) = 1; change(0, 9, 0, 5) = 2
        lay() = 0; changed(0) = 1; change(0, 12, 0, 5) = 1; lay() = 1; changed(0) = 0
        # 9 changed: a Seal in place of a Mark with the same int
        row(0, 9, 1) = 1; change(0, 17, 0, 5) = 1; lay() = 0; settle() = 1; change(0, 18, 0, 5) = 1; lay() = 0; changed(0) = 1
        # 9 changed: another Mark with the same int is equal
        row(0, 9, 1) = 1; change(0, 17, 0, 5) = 1; lay() = 0; settle() = 1; change(0, 20, 0, 5) = 1; lay() = 0; changed(0) = 0
        # 9 changed: a String with the same number is equal
        row(0, 8, 1) = 1; change(0, 16, 0, 5) = 1; lay() = 0; settle() = 1; change(0, 16, 0, 83) = 1; lay() = 0; changed(0) = 0
        # 9 changed: the base is what the latest settle() found
        row(0, 4, 1) = 1; change(0, 4, 0, 5) = 1; lay() = 0; changed(0) = 1; settle() = 1; changed(0) = 0
        change(0, 4, 0, 0) = 1; lay() = 0; changed(0) = 1; settle() = 1; changed(0) = 0
        # 9 changed: one slot's changes are not another one's
        row(0, 4, 12) = 12; row(1, 4, 12) = 12; change(0, 4, 11, 1) = 1; lay() = 0; changed(0) = 1; changed(1) = 0
        """;
}
