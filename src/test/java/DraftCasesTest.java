/** The boundary cases of promises 10 to 18: the draft, what can be written where, and texts. */
public final class DraftCasesTest {
    public static void main(String[] args) {
        Cases.run(CHANGE + MOVE + DROP + PREVIEW + COPIES);
        writingWays();
        Cases.run(TYPE + WIPE + READ + TEXT);
        everyByte();
        flaws();
        texts();
        Cases.finish("DraftCasesTest", 10, 18);
    }

    private static final String CHANGE = """
        # 10 change: s is -1
        change(-1, 4, 0, 0) = BAD
        # 10 change: s is 6
        change(6, 4, 0, 0) = BAD
        # 10 change: s is the least and the greatest int
        change(MIN, 4, 0, 0) = BAD; change(MAX, 4, 0, 0) = BAD
        # 10 change: s is 0 and 5
        change(0, 4, 0, 0) = 1; change(5, 4, 0, 0) = 2; text(24, 0) = 48; text(24, 6) = 53
        # 10 change: way is -1
        change(0, -1, 0, 0) = BAD
        # 10 change: way is 22
        change(0, 22, 0, 0) = BAD
        # 10 change: way is the least and the greatest int
        change(0, MIN, 0, 0) = BAD; change(0, MAX, 0, 0) = BAD
        # 10 change: way is 0 and 21
        change(0, 0, 0, 0) = 1; change(0, 21, 0, 0) = 2; text(24, 1) = 97; text(24, 7) = 118
        # 10 change: i is any int
        change(0, 4, -1, 0) = 1; change(0, 4, 12, 0) = 2; change(0, 4, MIN, 0) = 3; change(0, 4, MAX, 0) = 4
        # 10 change: v is any int
        row(0, 4, 4) = 4; change(0, 4, 0, -1) = 1; change(0, 4, 1, 0) = 2; change(0, 4, 2, MIN) = 3; change(0, 4, 3, MAX) = 4
        lay() = 0; get(0, 4, 0) = -1; get(0, 4, 1) = 0; get(0, 4, 2) = -2147483648; get(0, 4, 3) = 2147483647
        # 10 change: a slot that is empty, a thing that is no array, an array that does not fit, an index that is not there
        change(0, 4, 0, 0) = 1; row(1, 14, 0) = 0; change(1, 4, 0, 0) = 2; row(2, 12, 1) = 1; change(2, 4, 0, 0) = 3
        row(3, 1, 1) = 1; change(3, 4, 0, 0) = 4; change(3, 1, 1, 0) = 5; count(2) = 5; fault(2) = NONE; met(13, 1) = 0
        # 10 change: six have room
        change(0, 4, 0, 0) = 1; change(0, 4, 0, 0) = 2; change(0, 4, 0, 0) = 3; change(0, 4, 0, 0) = 4; change(0, 4, 0, 0) = 5
        change(0, 4, 0, 0) = 6; count(2) = 6
        # 10 change: FULL for the seventh
        times 6: change(0, 4, 0, 0)
        change(0, 4, 0, 0) = FULL; change(5, 21, MAX, MAX) = FULL; count(2) = 6
        # 10 change: FULL if there are copies among the six
        times 3: change(0, 4, 0, 0); move(0, 0, 4, 0, 0)
        change(0, 4, 0, 0) = FULL
        # 10 change: BAD comes before FULL
        times 6: change(0, 4, 0, 0)
        change(-1, 4, 0, 0) = BAD; change(6, 4, 0, 0) = BAD; change(0, -1, 0, 0) = BAD; change(0, 22, 0, 0) = BAD
        # 10 change: it appends behind the others
        change(1, 4, 2, 3) = 1; change(2, 5, 3, 4) = 2; text(24, NONE) = 11; text(24, 0) = 49; text(24, 6) = 50
        # 10 change: after lay() the draft begins anew
        row(0, 4, 1) = 1
        times 6: change(0, 4, 0, 0)
        lay() = 0; change(0, 4, 0, 0) = 1
        """;

    private static final String MOVE = """
        # 11 move: s is -1
        move(-1, 0, 4, 0, 0) = BAD
        # 11 move: s is 6
        move(6, 0, 4, 0, 0) = BAD
        # 11 move: s is the least and the greatest int
        move(MIN, 0, 4, 0, 0) = BAD; move(MAX, 0, 4, 0, 0) = BAD
        # 11 move: t is -1
        move(0, 0, 4, -1, 0) = BAD
        # 11 move: t is 6
        move(0, 0, 4, 6, 0) = BAD
        # 11 move: t is the least and the greatest int
        move(0, 0, 4, MIN, 0) = BAD; move(0, 0, 4, MAX, 0) = BAD
        # 11 move: s and t are 0 and 5
        move(0, 0, 4, 5, 0) = 1; move(5, 0, 4, 0, 0) = 2; text(24, 0) = 48; text(24, 4) = 53; text(24, 8) = 53; text(24, 12) = 48
        # 11 move: s and t are the same, and i and j too
        row(0, 4, 1) = 1; change(0, 4, 0, 7) = 1; lay() = 0; move(0, 0, 4, 0, 0) = 1; lay() = 1; get(0, 4, 0) = 7
        # 11 move: what is read by way 4 is widened again when it is written
        row(0, 1, 1) = 1; row(1, 7, 1) = 1; row(2, 6, 1) = 1; row(3, 5, 1) = 1; change(0, 1, 0, -3) = 1; lay() = 0
        move(0, 0, 4, 1, 0) = 1; move(0, 0, 4, 2, 0) = 2; move(0, 0, 4, 3, 0) = 3; lay() = 1; get(1, 7, 0) = -24
        get(2, 6, 0) = -24; get(3, 5, 0) = -3
        # 11 move: what is read by way 6 is rounded before it is written into double[]
        row(0, 4, 1) = 1; row(1, 7, 3) = 3; change(0, 4, 0, 16777217) = 1; lay() = 0; move(0, 0, 6, 1, 0) = 1
        move(0, 0, 7, 1, 1) = 2; move(0, 0, 8, 1, 2) = 3; lay() = 1; get(1, 7, 0) = 134217728; get(1, 7, 1) = 134217736
        get(1, 7, 2) = 134217736
        # 11 move: way is -1
        move(0, 0, -1, 0, 0) = BAD
        # 11 move: way is 9
        move(0, 0, 9, 0, 0) = BAD; move(0, 0, 21, 0, 0) = BAD
        # 11 move: way is the least and the greatest int
        move(0, 0, MIN, 0, 0) = BAD; move(0, 0, MAX, 0, 0) = BAD
        # 11 move: way is 0 and 8
        move(0, 0, 0, 0, 0) = 1; move(0, 0, 8, 0, 0) = 2; text(24, 3) = 97; text(24, 11) = 105
        # 11 move: i is any int
        move(0, -1, 4, 0, 0) = 1; move(0, 12, 4, 0, 0) = 2; move(0, MIN, 4, 0, 0) = 3; move(0, MAX, 4, 0, 0) = 4
        # 11 move: j is any int
        move(0, 0, 4, 0, -1) = 1; move(0, 0, 4, 0, 12) = 2; move(0, 0, 4, 0, MIN) = 3; move(0, 0, 4, 0, MAX) = 4
        # 11 move: slots that are empty or hold no array
        move(0, 0, 8, 1, 0) = 1; row(2, 13, 0) = 0; move(2, 0, 8, 2, 0) = 2; count(2) = 2; fault(2) = NONE; met(8, 1) = 0
        # 11 move: six have room
        move(0, 0, 4, 0, 0) = 1; move(0, 0, 4, 0, 0) = 2; move(0, 0, 4, 0, 0) = 3; move(0, 0, 4, 0, 0) = 4
        move(0, 0, 4, 0, 0) = 5; move(0, 0, 4, 0, 0) = 6; count(2) = 6
        # 11 move: FULL for the seventh
        times 6: move(0, 0, 4, 0, 0)
        move(0, 0, 4, 0, 0) = FULL; count(2) = 6
        # 11 move: FULL if there are writes among the six
        times 3: move(0, 0, 4, 0, 0); change(0, 4, 0, 0)
        move(0, 0, 4, 0, 0) = FULL
        # 11 move: BAD comes before FULL
        times 6: move(0, 0, 4, 0, 0)
        move(6, 0, 4, 0, 0) = BAD; move(0, 0, 9, 0, 0) = BAD; move(0, 0, 4, 6, 0) = BAD; move(-1, 0, 4, 0, 0) = BAD
        """;

    private static final String DROP = """
        # 12 drop: NOT if the draft is empty
        drop() = NOT
        # 12 drop: NOT again when it has become empty
        change(0, 4, 0, 0) = 1; drop() = 0; drop() = NOT
        # 12 drop: NOT after lay() has emptied the draft
        row(0, 4, 1) = 1; change(0, 4, 0, 0) = 1; lay() = 0; drop() = NOT
        # 12 drop: the last change, not the first
        change(1, 4, 0, 0) = 1; change(2, 4, 0, 0) = 2; drop() = 1; text(24, 0) = 49; text(24, NONE) = 5
        # 12 drop: from a full draft, which has room then
        times 6: change(0, 4, 0, 0)
        drop() = 5; change(1, 4, 0, 0) = 6; change(1, 4, 0, 0) = FULL
        # 12 drop: down to none
        times 6: change(0, 4, 0, 0)
        drop() = 5; drop() = 4; drop() = 3; drop() = 2; drop() = 1; drop() = 0; count(2) = 0
        # 12 drop: a copy
        change(1, 4, 0, 0) = 1; move(2, 0, 4, 3, 0) = 2; drop() = 1; text(24, NONE) = 5
        """;

    private static final String PREVIEW = """
        # 13 preview: k is -1
        change(0, 4, 0, 0) = 1; preview(-1) = BAD
        # 13 preview: k is the number of changes
        change(0, 4, 0, 0) = 1; preview(1) = BAD; change(0, 4, 0, 0) = 2; preview(1) = 1; preview(2) = BAD
        # 13 preview: k is the least and the greatest int
        change(0, 4, 0, 0) = 1; preview(MIN) = BAD; preview(MAX) = BAD
        # 13 preview: k is 0 and the draft is empty
        preview(0) = BAD
        # 13 preview: k is 5, the last one of a full draft, and 6
        times 5: change(0, 4, 0, 0)
        row(0, 4, 1) = 1; change(0, 4, 1, 0) = 6; preview(5) = 5; preview(6) = BAD; preview(0) = 0
        # 13 preview: a change that was dropped or laid is not there any more
        row(0, 4, 1) = 1; change(0, 4, 0, 0) = 1; preview(0) = 0; drop() = 0; preview(0) = BAD; change(0, 4, 0, 0) = 1; lay() = 0
        preview(0) = BAD
        # 13 preview: 0 for none
        row(0, 4, 1) = 1; change(0, 4, 0, 0) = 1; preview(0) = 0
        # 13 preview: finding 1
        change(0, 4, 0, 0) = 1; preview(0) = 1
        # 13 preview: finding 1 comes before 5
        change(0, 4, -1, 0) = 1; preview(0) = 1
        # 13 preview: finding 2, before 3, 4 and 5
        row(0, 13, 0) = 0; row(1, 14, 0) = 0; change(0, 4, 0, 0) = 1; change(0, 16, 1, 0) = 2; change(1, 17, -1, 0) = 3
        change(1, 0, 0, 0) = 4; change(0, 19, 0, 0) = 5; preview(0) = 2; preview(1) = 2; preview(2) = 2; preview(3) = 2
        preview(4) = 2
        # 13 preview: finding 3, before 5
        row(0, 11, 1) = 1; change(0, 4, 0, 0) = 1; change(0, 4, 1, 0) = 2; change(0, 7, -1, 0) = 3; preview(0) = 3
        preview(1) = 3; preview(2) = 3
        # 13 preview: finding 4, before 5
        row(0, 4, 1) = 1; change(0, 5, 0, 0) = 1; change(0, 5, 1, 0) = 2; change(0, 17, -1, 0) = 3; preview(0) = 4
        preview(1) = 4; preview(2) = 4
        # 13 preview: finding 5 at -1, at the size, at the least and the greatest int
        row(0, 4, 2) = 2; change(0, 4, -1, 0) = 1; change(0, 4, 2, 0) = 2; change(0, 4, MIN, 0) = 3; change(0, 4, MAX, 0) = 4
        change(0, 4, 1, 0) = 5; preview(0) = 5; preview(1) = 5; preview(2) = 5; preview(3) = 5; preview(4) = 0
        # 13 preview: finding 5 in an array without elements
        row(0, 4, 0) = 0; row(1, 12, 0) = 0; change(0, 4, 0, 0) = 1; change(1, 19, 0, 0) = 2; preview(0) = 5; preview(1) = 5
        # 13 preview: finding 5 at the index 12 of 12 elements, none at 11
        row(0, 4, 12) = 12; row(1, 4, 12) = 12; change(0, 4, 12, 0) = 1; change(0, 4, 11, 0) = 2; preview(0) = 5; preview(1) = 0
        # 13 preview: the changes before it that have no finding were done
        row(0, 12, 2) = 2; row(1, 8, 1) = 1; move(0, 0, 8, 1, 0) = 1; change(0, 12, 0, 1) = 2; move(0, 0, 8, 1, 0) = 3
        change(0, 16, 0, 1) = 4; move(0, 0, 8, 1, 0) = 5; preview(0) = 0; preview(2) = 4; preview(4) = 0
        # 13 preview: the changes before it that have a finding were not done
        row(0, 12, 2) = 2; row(1, 8, 1) = 1; change(0, 12, 2, 1) = 1; move(0, 0, 8, 1, 0) = 2; change(0, 17, 0, 1) = 3
        move(0, 0, 8, 1, 0) = 4; preview(0) = 5; preview(1) = 0; preview(2) = 4; preview(3) = 0
        # 13 preview: the changes behind it were not done
        row(0, 12, 1) = 1; row(1, 8, 1) = 1; move(0, 0, 8, 1, 0) = 1; change(0, 12, 0, 1) = 2; preview(1) = 0; preview(0) = 0
        # 13 preview: a finding of one change is not one of the next
        change(0, 4, 0, 0) = 1; row(1, 4, 1) = 1; change(1, 4, 0, 0) = 2; preview(0) = 1; preview(1) = 0
        # 13 preview: what is applied was done before
        row(0, 12, 1) = 1; row(1, 8, 1) = 1; change(0, 12, 0, 1) = 1; lay() = 0; move(0, 0, 8, 1, 0) = 1; preview(0) = 4
        undo() = 0; preview(0) = 0
        # 13 preview: nothing stays changed
        row(0, 4, 1) = 1; change(0, 4, 0, 5) = 1; preview(0) = 0; get(0, 4, 0) = 0; blame(0, 0) = NONE; changed(0) = 0
        change(0, 4, 0, 6) = 2; lay() = 0; trace(0, 0, 1) = 0; change(0, 4, 0, 7) = 1; preview(0) = 0; get(0, 4, 0) = 6
        # 13 preview: it is not counted by met() and sets no fault
        change(0, 4, 0, 5) = 1; preview(0) = 1; met(13, 1) = 0; row(0, 4, 1) = 1; preview(0) = 0; met(13, 0) = 0; fault(0) = NONE
        # 13 preview: an array that came later counts
        change(0, 4, 0, 5) = 1; preview(0) = 1; row(0, 12, 1) = 1; preview(0) = 3; row(0, 3, 1) = 1; preview(0) = 4
        row(0, 4, 0) = 0; preview(0) = 5; row(0, 14, 0) = 0; preview(0) = 2; row(0, 7, 1) = 1; preview(0) = 0; lose(0) = 7
        preview(0) = 1
        """;

    private static final String COPIES = """
        # 13 preview: a copy's findings of reading come before those of writing
        row(0, 4, 1) = 1; row(1, 14, 0) = 0; row(2, 12, 1) = 1; move(0, 1, 4, 3, 0) = 1; move(1, 0, 4, 3, 0) = 2
        move(2, 0, 4, 3, 0) = 3; move(0, 0, 3, 1, 0) = 4; move(0, 0, 4, 1, 0) = 5; move(3, 0, 8, 1, 0) = 6; preview(0) = 5
        preview(1) = 2; preview(2) = 3; preview(3) = 4; preview(4) = 2; preview(5) = 1
        # 13 preview: a copy's findings of writing, each of them
        row(0, 4, 2) = 2; row(1, 14, 0) = 0; row(2, 12, 1) = 1; row(4, 3, 1) = 1; move(0, 1, 4, 3, 0) = 1
        move(0, 0, 4, 1, 0) = 2; move(0, 0, 4, 2, 0) = 3; move(0, 0, 4, 4, 0) = 4; move(0, 0, 4, 0, 2) = 5
        move(0, 1, 4, 0, 0) = 6; preview(0) = 1; preview(1) = 2; preview(2) = 3; preview(3) = 4; preview(4) = 5; preview(5) = 0
        # 13 preview: a copy by a way 0 to 7 writes by the same way, into a wider array too
        row(0, 1, 1) = 1; row(1, 5, 1) = 1; row(2, 3, 1) = 1; row(3, 2, 1) = 1; row(4, 7, 1) = 1; move(0, 0, 3, 1, 0) = 1
        move(0, 0, 4, 2, 0) = 2; move(0, 0, 1, 2, 0) = 3; move(0, 0, 1, 3, 0) = 4; move(0, 0, 5, 4, 0) = 5
        move(0, 0, 6, 1, 0) = 6; preview(0) = 0; preview(1) = 4; preview(2) = 0; preview(3) = 4; preview(4) = 0; preview(5) = 4
        # 13 preview: a copy by a way 0 to 7 does not write into an object array, one by way 8 does
        row(0, 4, 1) = 1; row(1, 11, 1) = 1; row(2, 12, 1) = 1; move(0, 0, 4, 1, 0) = 1; move(0, 0, 4, 2, 0) = 2
        move(0, 0, 8, 1, 0) = 3; move(0, 0, 8, 2, 0) = 4; preview(0) = 3; preview(1) = 3; preview(2) = 0; preview(3) = 0
        # 13 preview: a copy by way 8 of a primitive value writes a wrapper object, which widens
        row(0, 4, 1) = 1; row(1, 5, 1) = 1; row(2, 3, 1) = 1; row(3, 11, 1) = 1; row(4, 8, 1) = 1; row(5, 5, 1) = 1
        move(0, 0, 8, 1, 0) = 1; move(0, 0, 8, 2, 0) = 2; move(5, 0, 8, 3, 0) = 3; move(0, 0, 8, 4, 0) = 4
        move(0, 0, 8, 3, 0) = 5; preview(0) = 0; preview(1) = 4; preview(2) = 4; preview(3) = 4; preview(4) = 0
        # 13 preview: a copy by way 8 of a wrapper object into a primitive array
        row(0, 12, 2) = 2; row(1, 6, 1) = 1; row(2, 0, 1) = 1; change(0, 10, 0, 3) = 1; change(0, 8, 1, 3) = 2; lay() = 0
        move(0, 0, 8, 1, 0) = 1; move(0, 1, 8, 1, 0) = 2; move(0, 0, 8, 2, 0) = 3; move(0, 1, 8, 2, 0) = 4; preview(0) = 0
        preview(1) = 4; preview(2) = 4; preview(3) = 0
        # 13 preview: a copy of null, by way 19
        row(0, 12, 1) = 1; row(1, 8, 1) = 1; row(2, 10, 1) = 1; row(3, 11, 1) = 1; row(4, 4, 1) = 1; row(5, 9, 1) = 1
        move(0, 0, 8, 1, 0) = 1; move(0, 0, 8, 2, 0) = 2; move(0, 0, 8, 3, 0) = 3; move(0, 0, 8, 4, 0) = 4
        move(0, 0, 8, 5, 0) = 5; move(1, 0, 8, 0, 0) = 6; preview(0) = 0; preview(1) = 0; preview(2) = 0; preview(3) = 4
        preview(4) = 0; preview(5) = 0
        # 13 preview: a copy of a String, by way 16
        row(0, 8, 1) = 1; row(1, 12, 1) = 1; row(2, 9, 1) = 1; row(3, 11, 1) = 1; row(4, 4, 1) = 1; change(0, 16, 0, 1) = 1
        lay() = 0; move(0, 0, 8, 0, 0) = 1; move(0, 0, 8, 1, 0) = 2; move(0, 0, 8, 2, 0) = 3; move(0, 0, 8, 3, 0) = 4
        move(0, 0, 8, 4, 0) = 5; preview(0) = 0; preview(1) = 0; preview(2) = 4; preview(3) = 4; preview(4) = 4
        # 13 preview: a copy of a Mark, by way 17
        row(0, 9, 1) = 1; row(1, 9, 1) = 1; row(2, 10, 1) = 1; row(3, 12, 1) = 1; change(0, 17, 0, 1) = 1; lay() = 0
        move(0, 0, 8, 1, 0) = 1; move(0, 0, 8, 2, 0) = 2; move(0, 0, 8, 3, 0) = 3; preview(0) = 0; preview(1) = 4; preview(2) = 4
        # 13 preview: a copy of a Seal, by way 18, also out of Mark[]
        row(0, 9, 1) = 1; row(1, 9, 1) = 1; row(2, 10, 2) = 2; row(3, 12, 1) = 1; change(0, 18, 0, 1) = 1; lay() = 0
        move(0, 0, 8, 1, 0) = 1; move(0, 0, 8, 2, 0) = 2; move(0, 0, 8, 3, 0) = 3; move(2, 0, 8, 2, 1) = 4
        move(2, 1, 8, 1, 0) = 5; preview(0) = 0; preview(1) = 0; preview(2) = 4; preview(3) = 0; preview(4) = 0
        # 13 preview: a copy of an Integer out of Integer[] into int[] and double[], not into short[]
        row(0, 11, 1) = 1; row(1, 4, 1) = 1; row(2, 7, 1) = 1; row(3, 3, 1) = 1; change(0, 12, 0, 1) = 1; lay() = 0
        move(0, 0, 8, 1, 0) = 1; move(0, 0, 8, 2, 0) = 2; move(0, 0, 8, 3, 0) = 3; preview(0) = 0; preview(1) = 0; preview(2) = 4
        """;

    /** A column for each kind 0 to 14, and one for an empty slot; a digit is the finding. */
    private static void writingWays() {
        writingWay("way 0, a boolean, into boolean[] alone", 0, "0444444433333221");
        writingWay("way 1, a byte, not into char[]", 1, "4040000033333221");
        writingWay("way 2, a char, not into byte[] or short[]", 2, "4404000033333221");
        writingWay("way 3, a short, not into byte[] or char[]", 3, "4440000033333221");
        writingWay("way 4, an int, from int[] on", 4, "4444000033333221");
        writingWay("way 5, a long, from long[] on", 5, "4444400033333221");
        writingWay("way 6, a float, into float[] and double[]", 6, "4444440033333221");
        writingWay("way 7, a double, into double[] alone", 7, "4444444033333221");
        writingWay("way 8, a Boolean, into boolean[] and Object[]", 8, "0444444444440221");
        writingWay("way 9, a Byte, where a byte can go, and into Object[]", 9, "4040000044440221");
        writingWay("way 10, a Character, where a char can go, and into Object[]", 10, "4404000044440221");
        writingWay("way 11, a Short, where a short can go, and into Object[]", 11, "4440000044440221");
        writingWay("way 12, an Integer, where an int can go, into Integer[] and into Object[]", 12, "4444000044400221");
        writingWay("way 13, a Long, where a long can go, and into Object[]", 13, "4444400044440221");
        writingWay("way 14, a Float, where a float can go, and into Object[]", 14, "4444440044440221");
        writingWay("way 15, a Double, into double[] and Object[]", 15, "4444444044440221");
        writingWay("way 16, a String, into String[] and Object[]", 16, "4444444404440221");
        writingWay("way 17, a Mark, into Mark[] alone, not into Object[]", 17, "4444444440444221");
        writingWay("way 18, a Seal, into Mark[] and Seal[], not into Object[]", 18, "4444444440044221");
        writingWay("way 19, null, into any object array", 19, "4444444400000221");
        writingWay("way 20, a Mark, as way 17", 20, "4444444440444221");
        writingWay("way 21, a Seal, as way 18", 21, "4444444440044221");
    }

    private static void writingWay(String way, int number, String findings) {
        String name = "13 preview: " + way;
        Cases.noteName(name);
        PatchDesk desk = new PatchDesk();
        desk.change(0, number, 0, 1);
        for (int kind = 0; kind <= 15; kind++) {
            if (kind == 15) {
                desk.lose(0);
            } else {
                desk.row(0, kind, 1);
            }
            Calls.due(name, "into kind " + kind, desk.preview(0), findings.charAt(kind) - '0');
        }
    }

    private static final String TYPE = """
        # 14 type: b is -1
        type(-1) = BAD
        # 14 type: b is 256
        type(256) = BAD
        # 14 type: b is the least and the greatest int
        type(MIN) = BAD; type(MAX) = BAD
        # 14 type: b is 0 and 255
        type(0) = 1; type(255) = 2; wipe() = 2
        # 14 type: the 80th has room
        times 78: type(48)
        type(48) = 79; type(48) = 80
        # 14 type: FULL for the 81st
        times 80: type(48)
        type(48) = FULL; type(0) = FULL; wipe() = 80
        # 14 type: BAD comes before FULL
        times 80: type(48)
        type(-1) = BAD; type(256) = BAD
        # 14 type: BAD is not counted among the bytes
        type(48) = 1; type(256) = BAD; type(97) = 2
        # 14 type: after wipe() and read() there is room again
        times 80: type(48)
        wipe() = 80; type(48) = 1; wipe() = 1
        type 0a0=7
        read() = 1; type(48) = 1
        """;

    private static final String WIPE = """
        # 15 wipe: an empty buffer
        wipe() = 0; wipe() = 0
        # 15 wipe: one byte
        type(48) = 1; wipe() = 1; wipe() = 0
        # 15 wipe: a full buffer
        times 80: type(48)
        wipe() = 80; flaw() = 0; wipe() = 0
        # 15 wipe: what was typed before does not come back
        type 0a0=7
        wipe() = 5; flaw() = 0; read() = NOT; type(48) = 1; flaw() = 1; read() = NOT
        # 15 wipe: the draft stays
        change(0, 4, 0, 0) = 1; type(48) = 1; wipe() = 1; count(2) = 1
        """;

    private static final String READ = """
        # 17 read: NOT if the buffer is empty
        read() = NOT
        # 17 read: NOT if the text has a flaw, and the buffer stays
        type 0a0=7;
        read() = NOT; wipe() = 6; count(2) = 0
        # 17 read: NOT if the last of several changes has a flaw, and none is appended
        type 0a0=7;0a1=7;0w
        read() = NOT; count(2) = 0; wipe() = 14
        # 17 read: NOT if a byte stands behind the text
        type 0a0=7x
        read() = NOT; wipe() = 6
        # 17 read: one change
        type 0a0=7
        read() = 1; count(2) = 1
        # 17 read: the buffer is empty then
        type 0a0=7
        read() = 1; flaw() = 0; wipe() = 0; read() = NOT; count(2) = 1
        # 17 read: six changes into an empty draft
        type 0a0=1;0a0=2;0a0=3;0a0=4;0a0=5;0a0=6
        read() = 6; text(24, 34) = 54; wipe() = 0
        # 17 read: FULL for seven changes, and the buffer stays
        type 0a0=1;0a0=2;0a0=3;0a0=4;0a0=5;0a0=6;0a0=7
        read() = FULL; count(2) = 0; flaw() = NONE; wipe() = 41
        # 17 read: FULL for 13 changes
        type 0a0=1;0a0=2;0a0=3;0a0=4;0a0=5;0a0=6;0a0=7;0a0=8;0a0=9;0a0=1;0a0=1;0a0=1;0a0=1
        read() = FULL; count(2) = 0; wipe() = 77
        # 17 read: the draft is full then
        times 4: change(0, 4, 0, 0)
        type 0a0=1;0a0=2
        read() = 6; change(0, 4, 0, 0) = FULL
        # 17 read: FULL if the draft would have seven changes
        times 4: change(0, 4, 0, 0)
        type 0a0=1;0a0=2;0a0=3
        read() = FULL; count(2) = 4; flaw() = NONE; drop() = 3; read() = 6
        # 17 read: FULL for one change if the draft has six
        times 6: change(0, 4, 0, 0)
        type 0a0=1
        read() = FULL; wipe() = 5; count(2) = 6
        # 17 read: NOT comes before FULL
        times 6: change(0, 4, 0, 0)
        read() = NOT
        type 0a0=1;0a0=2;
        read() = NOT
        # 17 read: what is read is appended behind the draft, in its order
        change(1, 4, 0, 0) = 1
        type 2a0=1;3a0=2
        read() = 3; text(24, 0) = 49; text(24, 6) = 50; text(24, 12) = 51
        # 17 read: a write with the least and the greatest int
        type 5v-2147483648=2147483647
        read() = 1; text(24, NONE) = 24; text(24, 2) = 45; text(24, 3) = 50; text(24, 12) = 56; text(24, 13) = 61
        text(24, 14) = 50; text(24, 23) = 55
        # 17 read: a copy with the least and the greatest int
        type 0.2147483647i5.-2147483648
        read() = 1; text(24, NONE) = 26; text(24, 1) = 46; text(24, 11) = 55; text(24, 12) = 105; text(24, 14) = 46
        text(24, 15) = 45; text(24, 25) = 56
        # 17 read: what is read does the same as what change() and move() append
        row(0, 4, 2) = 2; row(3, 5, 2) = 2
        type 0e1=-7;0.1f3.1
        read() = 2; lay() = 0; get(0, 4, 1) = -7; get(3, 5, 1) = -7; change(0, 4, 0, -7) = 1; lay() = 1; get(0, 4, 0) = -7
        # 17 read: findings do not matter
        type 0e99=1;1.-1i2.5
        read() = 2; count(2) = 2; fault(2) = NONE; preview(0) = 1
        # 17 read: the undone patches stay
        row(0, 4, 1) = 1; change(0, 4, 0, 0) = 1; lay() = 0; undo() = 0
        type 0a0=1
        read() = 1; redo() = 0
        """;

    private static final String TEXT = """
        # 18 text: p is -1
        text(-1, NONE) = BAD; text(-1, 0) = BAD
        # 18 text: p is 25
        text(25, NONE) = BAD; change(0, 4, 0, 0) = 1; text(25, 0) = BAD
        # 18 text: p is the least and the greatest int
        text(MIN, NONE) = BAD; text(MAX, NONE) = BAD
        # 18 text: p is the number of patches
        text(0, NONE) = BAD; row(0, 4, 1) = 1; change(0, 4, 0, 0) = 1; lay() = 0; text(0, NONE) = 5; text(1, NONE) = BAD
        text(23, NONE) = BAD; text(1, 0) = BAD
        # 18 text: p is 23, the last patch
        row(0, 4, 1) = 1
        times 23: change(0, 4, 0, 0); lay()
        text(23, NONE) = BAD; change(0, 4, 0, 12) = 1; lay() = 23; text(23, NONE) = 6; text(23, 5) = 50; text(24, NONE) = 0
        # 18 text: p is 24, the draft
        text(24, NONE) = 0; change(3, 4, 0, 0) = 1; text(24, NONE) = 5; text(24, 0) = 51
        # 18 text: n is NONE for a list without changes
        text(24, NONE) = 0; row(0, 4, 1) = 1; change(0, 4, 0, 0) = 1; lay() = 0; change(0, 4, 0, 0) = 1; lay() = 1; prune() = 1
        text(0, NONE) = 0; text(1, NONE) = 5
        # 18 text: n is 0 for a list without changes
        text(24, 0) = BAD; row(0, 4, 1) = 1; change(0, 4, 0, 0) = 1; lay() = 0; change(0, 4, 0, 0) = 1; lay() = 1; prune() = 1
        text(0, 0) = BAD; text(1, 0) = 48
        # 18 text: n is -2
        change(3, 4, 0, 0) = 1; text(24, -2) = BAD
        # 18 text: n is 0
        change(3, 4, 0, 0) = 1; text(24, 0) = 51
        # 18 text: n is the last byte, and the number of bytes
        change(3, 4, 0, 9) = 1; text(24, 4) = 57; text(24, 5) = BAD
        # 18 text: n is the least and the greatest int
        change(3, 4, 0, 0) = 1; text(24, MIN) = BAD; text(24, MAX) = BAD
        # 18 text: a patch that is removed, and the draft that is empty again
        row(0, 4, 1) = 1; change(0, 4, 0, 7) = 1; lay() = 0; undo() = 0; text(0, NONE) = 5; text(0, 4) = 55; text(24, NONE) = 0
        # 18 text: patches that settle() removed
        row(0, 4, 1) = 1; change(0, 4, 0, 7) = 1; lay() = 0; settle() = 1; text(0, NONE) = BAD
        """;

    private static void everyByte() {
        Cases.noteName("14 type: every byte from 0 to 255 is taken");
        PatchDesk desk = new PatchDesk();
        for (int b = 0; b <= 255; b++) {
            Calls.due("14 type", "type(" + b + ")", desk.type(b), b % 80 + 1);
            if (b % 80 == 79) {
                Calls.due("14 type", "wipe() after " + b, desk.wipe(), 80);
            }
        }
        Cases.noteName("16 flaw: a byte that no change begins with, each of them");
        for (int b = 0; b <= 255; b++) {
            PatchDesk other = new PatchDesk();
            other.type(b);
            Calls.due("16 flaw", "after type(" + b + ")", other.flaw(), b >= '0' && b <= '5' ? 1 : 0);
        }
    }

    private static void flaws() {
        flaw("no bytes", "", 0);
        flaw("a slot alone", "0", 1);
        flaw("slot 0 and slot 5", "0a0=0;5a0=0", -1);
        flaw("slot 6", "6a0=0", 0);
        flaw("the byte before 0 as a slot", "/a0=0", 0);
        flaw("two slots", "00a0=0", 1);
        flaw("a letter first", "a0=0", 0);
        flaw("a space first", " 0a0=0", 0);
        flaw("way a", "0a0=0", -1);
        flaw("way v", "0v0=0", -1);
        flaw("way w", "0w0=0", 1);
        flaw("the byte before a as a way", "0`0=0", 1);
        flaw("a capital letter as a way", "0A0=0", 1);
        flaw("no index", "0a", 2);
        flaw("no index before =", "0a=0", 2);
        flaw("two letters", "0aa0=0", 2);
        flaw("a space before the index", "0a 0=0", 2);
        flaw("an index of 0", "0a0=0", -1);
        flaw("an index with a leading zero", "0a01=0", 3);
        flaw("an index of two zeros", "0a00=0", 3);
        flaw("an index with a plus", "0a+1=0", 2);
        flaw("a minus alone as an index", "0a-", 3);
        flaw("a minus before =", "0a-=0", 3);
        flaw("an index of minus 0", "0a-0=0", 3);
        flaw("an index of minus 01", "0a-01=0", 3);
        flaw("an index with two minuses", "0a--1=0", 3);
        flaw("an index of -1", "0a-1=0", -1);
        flaw("an index of 9 and 10", "0a9=0;0a10=0", -1);
        flaw("an index with a letter in it", "0a1a=0", 3);
        flaw("the greatest int as an index", "0a2147483647=0", -1);
        flaw("one more than the greatest int as an index", "0a2147483648=0", 11);
        flaw("the least int as an index", "0a-2147483648=0", -1);
        flaw("one less than the least int as an index", "0a-2147483649=0", 12);
        flaw("an index of ten digits that is too great at the tenth", "0a9999999999=0", 11);
        flaw("an index of eleven digits", "0a10000000000=0", 12);
        flaw("a negative index of eleven digits", "0a-10000000000=0", 13);
        flaw("no =", "0a0", 3);
        flaw("another sign than =", "0a0:0", 3);
        flaw("no v", "0a0=", 4);
        flaw("two =", "0a0==0", 4);
        flaw("v with a leading zero", "0a0=07", 5);
        flaw("v of minus 0", "0a0=-0", 5);
        flaw("a minus alone as v", "0a0=-", 5);
        flaw("v with a plus", "0a0=+1", 4);
        flaw("v behind a space", "0a0= 1", 4);
        flaw("the greatest int as v", "0a0=2147483647", -1);
        flaw("one more than the greatest int as v", "0a0=2147483648", 13);
        flaw("the least int as v", "0a0=-2147483648", -1);
        flaw("one less than the least int as v", "0a0=-2147483649", 14);
        flaw("a v that wraps around to a small int", "0a0=4294967297", 13);
        flaw("a v that wraps around as a long", "0a0=18446744073709551617", 14);
        flaw("a v of seventy digits", "0a0=" + "1".repeat(70), 14);
        flaw("a space behind v", "0a0=1 ", 5);
        flaw("a byte behind the text", "0a0=1x", 5);
        flaw("the byte 0 behind the text", "0a0=1\0", 5);
        flaw("the byte 255 behind the text", "0a0=1\u00ff", 5);
        flaw("a point alone", "0.", 2);
        flaw("two points", "0..0a0.0", 2);
        flaw("no index behind the point", "0.a0.0", 2);
        flaw("a copy's index alone", "0.0", 3);
        flaw("a copy's index with a leading zero", "0.00a0.0", 3);
        flaw("a copy by way a", "0.0a0.0", -1);
        flaw("a copy by way i", "0.0i0.0", -1);
        flaw("a copy by way j", "0.0j0.0", 3);
        flaw("a copy by the byte before a", "0.0`0.0", 3);
        flaw("a copy with = as a write", "0.0=0", 3);
        flaw("a copy without the other slot", "0.0a", 4);
        flaw("a copy without the other slot before the point", "0.0a.0", 4);
        flaw("a copy to slot 5", "0.0a5.0", -1);
        flaw("a copy to slot 6", "0.0a6.0", 4);
        flaw("a copy to a slot of two digits", "0.0a00.0", 5);
        flaw("a copy without the second point", "0.0a0", 5);
        flaw("a copy with a letter for the second point", "0.0a0a0", 5);
        flaw("a copy without the other index", "0.0a0.", 6);
        flaw("a copy whose other index is a minus", "0.0a0.-", 7);
        flaw("a copy whose other index has a leading zero", "0.0a0.01", 7);
        flaw("a copy with something behind it", "0.0a0.0=0", 7);
        flaw("a copy with the least and the greatest int", "0.-2147483648a0.2147483647", -1);
        flaw("a copy with the greatest and the least int", "0.2147483647a0.-2147483648", -1);
        flaw("a copy from one less than the least int", "0.-2147483649a0.0", 12);
        flaw("a copy from one more than the greatest int", "0.2147483648a0.0", 11);
        flaw("a copy to one more than the greatest int", "0.0a0.2147483648", 15);
        flaw("a copy to one less than the least int", "0.0a0.-2147483649", 16);
        flaw("a copy by a way above i, which a write has", "0.0v0.0", 3);
        flaw("a semicolon alone", ";", 0);
        flaw("a semicolon first", ";0a0=0", 0);
        flaw("a semicolon last", "0a0=0;", 6);
        flaw("two semicolons", "0a0=0;;0a0=0", 6);
        flaw("a comma", "0a0=0,0a0=0", 5);
        flaw("a semicolon after a copy", "0.0a0.0;", 8);
        flaw("a space behind a semicolon", "0a0=0; 0a0=0", 6);
        flaw("a write and a copy", "0a0=0;0.0a0.0", -1);
        flaw("a flaw in the second change", "0a0=0;0w", 7);
        flaw("seven changes, more than a draft has room for", "0a0=0;0a0=0;0a0=0;0a0=0;0a0=0;0a0=0;0a0=0", -1);
        flaw("80 bytes without a flaw", "0a0=0;".repeat(12) + "0a0=1234", -1);
        flaw("80 bytes, a semicolon the last", "0a0=0;".repeat(12) + "0a0=123;", 80);
        flaw("80 bytes, a flaw at the last", "0a0=0;".repeat(12) + "0a0=123x", 79);
        flaw("80 bytes, a flaw at the first", "x".repeat(80), 0);
    }

    private static void flaw(String words, String text, int want) {
        String name = "16 flaw: " + words;
        Cases.noteName(name);
        PatchDesk desk = new PatchDesk();
        Calls.typeAll(desk, text);
        long before = desk.digest();
        Calls.due(name, "flaw()", desk.flaw(), want);
        Calls.due(name, "flaw() again", desk.flaw(), want);
        Calls.due(name, "the state", desk.digest(), before);
        Calls.due(name, "wipe()", desk.wipe(), text.length());
    }

    /** What is written is what is read again, byte by byte. */
    private static void texts() {
        StringBuilder ways = new StringBuilder();
        for (char way = 'a'; way <= 'v'; way++) {
            text("a write by way " + way, "0" + way + "0=0");
            ways.append(way);
        }
        for (char way = 'a'; way <= 'i'; way++) {
            text("a copy by way " + way, "0.0" + way + "0.0");
        }
        Calls.due("18 text", "the ways", ways.length(), 22);
        text("a write into slot 5", "5a0=0");
        text("a copy from slot 5 to slot 4", "5.0a4.0");
        text("indices and v of 0", "0a0=0;0.0a0.0");
        text("a 0 behind another number", "0a5=0;0.7a0.0;0a3=0");
        text("indices and v of 9 and 10", "0a9=10;0.10a0.9");
        text("indices and v of 99, 100 and 101", "0a99=100;0.101a0.99");
        text("indices and v of -1 and -10", "0a-1=-10;0.-10a0.-1");
        text("zeros within and at the end", "0a1000000000=-1000000000;0.100a0.10203");
        text("the greatest int", "0a2147483647=2147483647;0.2147483647a0.2147483647");
        text("the least int", "0a-2147483648=-2147483648;0.-2147483648a0.-2147483648");
        text("six changes", "0a0=0;1b1=1;2c2=2;3.3d3.3;4.4e4.4;5f5=5");
        text("six of the longest copies", ("0.-2147483648i5.-2147483648;".repeat(6) + "-").replace(";-", ""));
        text("six of the longest writes", ("5v-2147483648=-2147483648;".repeat(6) + "-").replace(";-", ""));
    }

    private static void text(String words, String text) {
        String name = "18 text: " + words;
        Cases.noteName(name);
        PatchDesk desk = new PatchDesk();
        for (String change : text.split(";")) {
            Calls.typeAll(desk, change);
            desk.read();
        }
        Calls.due(name, "text(24, NONE)", desk.text(24, PatchDesk.NONE), text.length());
        for (int n = 0; n < text.length(); n++) {
            Calls.due(name, "text(24, " + n + ")", desk.text(24, n), text.charAt(n));
        }
        Calls.due(name, "text(24, " + text.length() + ")", desk.text(24, text.length()), PatchDesk.BAD);
    }
}
