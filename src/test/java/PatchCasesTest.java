/** The boundary cases of promises 19 to 31: patches laid, removed, put elsewhere, and what is told of them. */
public final class PatchCasesTest {
    public static void main(String[] args) {
        Cases.run(LAY + UNDO + REDO + REDO_EMPTIED + REDO_KEPT + AGAIN);
        Cases.run(OUT + MOVING + LIFT + SWAP + WITH + HANGS);
        Cases.run(WITHOUT + TRACE + DEAD + PRUNE);
        Cases.finish("PatchCasesTest", 19, 31);
    }

    private static final String LAY = """
        # 19 lay: NOT if the draft is empty
        lay() = NOT; fault(2) = NONE
        # 19 lay: NOT again when the draft has become a patch
        row(0, 4, 1) = 1; change(0, 4, 0, 0) = 1; lay() = 0; lay() = NOT; count(0) = 1
        # 19 lay: NOT comes before FULL
        row(0, 4, 1) = 1
        times 24: change(0, 4, 0, 0); lay()
        count(0) = 24; lay() = NOT
        # 19 lay: the first patch is number 0, the 24th has room and is number 23
        row(0, 4, 1) = 1; change(0, 4, 0, 0) = 1; lay() = 0
        times 22: change(0, 4, 0, 0); lay()
        change(0, 4, 0, 0) = 1; lay() = 23; count(0) = 24; count(1) = 24; count(8) = 23
        # 19 lay: FULL for the 25th
        row(0, 4, 1) = 1
        times 24: change(0, 4, 0, 0); lay()
        change(0, 4, 0, 0) = 1; lay() = FULL; count(2) = 1
        # 19 lay: FULL also if patches are removed
        row(0, 4, 1) = 1
        times 24: change(0, 4, 0, 0); lay()
        times 24: undo()
        count(1) = 0; change(0, 4, 0, 0) = 1; lay() = FULL; count(3) = 24
        # 19 lay: FULL also if patches have lost all changes
        row(0, 4, 1) = 1
        times 24: change(0, 4, 0, 0); lay()
        prune() = 23; change(0, 4, 0, 0) = 1; lay() = FULL
        # 19 lay: FULL comes before a finding, sets no fault and is not counted
        row(0, 4, 1) = 1
        times 24: change(0, 4, 0, 0); lay()
        change(0, 4, 9, 0) = 1; lay() = FULL; fault(0) = NONE; fault(2) = NONE; met(13, 5) = 0
        # 19 lay: after settle() there is room again, from number 0 on
        row(0, 4, 1) = 1
        times 24: change(0, 4, 0, 0); lay()
        settle() = 24; change(0, 4, 0, 0) = 1; lay() = 0; change(0, 4, 0, 0) = 1; lay() = 1
        # 19 lay: the number of a removed patch is not taken again
        row(0, 4, 1) = 1; change(0, 4, 0, 5) = 1; lay() = 0; undo() = 0; change(0, 4, 0, 6) = 1; lay() = 1; count(0) = 2
        text(0, 4) = 53; text(1, 4) = 54
        # 19 lay: a patch of one change and one of six
        row(0, 4, 6) = 6; change(0, 4, 0, 1) = 1; lay() = 0; count(6) = 1; change(0, 4, 0, 2) = 1; change(0, 4, 1, 2) = 2
        change(0, 4, 2, 2) = 3; change(0, 4, 3, 2) = 4; change(0, 4, 4, 2) = 5; change(0, 4, 5, 2) = 6; lay() = 1
        count(6) = 7; get(0, 4, 0) = 2; get(0, 4, 5) = 2; text(1, NONE) = 35
        # 19 lay: on top of those that are applied
        row(0, 4, 1) = 1; change(0, 4, 0, 1) = 1; lay() = 0; change(0, 4, 0, 2) = 1; lay() = 1; undo() = 1
        change(0, 4, 0, 3) = 1; lay() = 2; order(0) = 0; order(1) = 2; order(2) = BAD; get(0, 4, 0) = 3; count(8) = 2
        # 19 lay: the draft is empty then
        row(0, 4, 1) = 1; change(0, 4, 0, 1) = 1; change(0, 4, 0, 2) = 2; lay() = 0; count(2) = 0; text(24, NONE) = 0
        # 19 lay: finding 1
        change(0, 4, 0, 0) = 1; lay() = -11; fault(0) = 24; fault(1) = 0; fault(2) = 1; count(0) = 0; count(2) = 1
        # 19 lay: finding 2
        row(0, 13, 0) = 0; change(0, 4, 0, 0) = 1; lay() = -12; fault(2) = 2
        # 19 lay: finding 3
        row(0, 8, 1) = 1; change(0, 4, 0, 0) = 1; lay() = -13; fault(2) = 3
        # 19 lay: finding 4
        row(0, 3, 1) = 1; change(0, 4, 0, 0) = 1; lay() = -14; fault(2) = 4
        # 19 lay: finding 5
        row(0, 4, 1) = 1; change(0, 4, 1, 0) = 1; lay() = -15; fault(2) = 5
        # 19 lay: finding 5 at -1
        row(0, 4, 1) = 1; change(0, 4, -1, 0) = 1; lay() = -15; fault(2) = 5
        # 19 lay: a copy with a finding of reading
        row(0, 4, 1) = 1; move(0, 1, 4, 0, 0) = 1; lay() = -15; drop() = 0; move(0, 0, 3, 0, 0) = 1; lay() = -14; drop() = 0
        move(1, 0, 8, 0, 0) = 1; lay() = -11
        # 19 lay: a copy with a finding of writing
        row(0, 4, 1) = 1; row(1, 14, 1) = 0; move(0, 0, 4, 0, 1) = 1; lay() = -15; drop() = 0; move(0, 0, 4, 1, 0) = 1; lay() = -12
        # 19 lay: of several findings that of the first change counts
        row(0, 4, 1) = 1; change(0, 4, 0, 0) = 1; change(0, 4, 9, 0) = 2; change(1, 4, 0, 0) = 3; lay() = -15; fault(0) = 24
        fault(1) = 1; fault(2) = 5
        # 19 lay: a finding of the last of six changes
        row(0, 4, 1) = 1
        times 5: change(0, 4, 0, 7)
        change(0, 4, 1, 7) = 6; lay() = -15; fault(1) = 5; get(0, 4, 0) = 0; count(2) = 6
        # 19 lay: if one change has a finding, none is done
        row(0, 4, 2) = 2; change(0, 4, 0, 7) = 1; change(0, 4, 2, 7) = 2; change(0, 4, 1, 7) = 3; lay() = -15; get(0, 4, 0) = 0
        get(0, 4, 1) = 0; changed(0) = 0; blame(0, 0) = NONE
        # 19 lay: a finding that comes of a change before
        row(0, 12, 1) = 1; row(1, 8, 1) = 1; move(0, 0, 8, 1, 0) = 1; change(0, 12, 0, 1) = 2; move(0, 0, 8, 1, 0) = 3
        lay() = -14; fault(1) = 2; drop() = 2; lay() = 0
        # 19 lay: a finding that a change before takes away
        row(0, 12, 1) = 1; row(1, 4, 1) = 1; move(0, 0, 8, 1, 0) = 1; lay() = -14; drop() = 0; change(0, 12, 0, 1) = 1
        move(0, 0, 8, 1, 0) = 2; lay() = 0; get(1, 4, 0) = 1
        # 19 lay: a refused one can be tried again when the array is there
        change(0, 4, 0, 7) = 1; lay() = -11; row(0, 4, 1) = 1; lay() = 0; get(0, 4, 0) = 7
        """;

    private static final String UNDO = """
        # 20 undo: NOT if no patch was ever laid
        undo() = NOT
        # 20 undo: NOT if all patches are removed
        row(0, 4, 1) = 1; change(0, 4, 0, 1) = 1; lay() = 0; undo() = 0; undo() = NOT; count(3) = 1
        # 20 undo: NOT after out(), with(), go() and settle() have removed all patches
        row(0, 4, 1) = 1; keep() = 0; change(0, 4, 0, 1) = 1; lay() = 0; out(0) = 0; undo() = NOT; again(0) = 1; with(0) = 1
        undo() = NOT; again(0) = 1; go(0) = 0; undo() = NOT; again(0) = 1; settle() = 1; undo() = NOT
        # 20 undo: the patch on top is not always the last number
        row(0, 4, 1) = 1; change(0, 4, 0, 1) = 1; lay() = 0; change(0, 4, 0, 2) = 1; lay() = 1; lift(0) = 0; undo() = 0
        get(0, 4, 0) = 2; undo() = 1; undo() = NOT
        # 20 undo: all 24 patches, and the list of undone patches has room for them
        row(0, 4, 1) = 1
        times 24: change(0, 4, 0, 1); lay()
        undo() = 23
        times 22: undo()
        undo() = 0; count(3) = 24; count(1) = 0; undo() = NOT; redo() = 0
        times 22: redo()
        redo() = 23; redo() = NOT; count(1) = 24
        # 20 undo: the value from before comes back
        row(0, 4, 1) = 1; change(0, 4, 0, 1) = 1; lay() = 0; change(0, 4, 0, 2) = 1; lay() = 1; undo() = 1; get(0, 4, 0) = 1
        undo() = 0; get(0, 4, 0) = 0; blame(0, 0) = NONE
        # 20 undo: a patch without changes
        row(0, 4, 1) = 1; change(0, 4, 0, 1) = 1; lay() = 0; change(0, 4, 0, 2) = 1; lay() = 1; prune() = 1; undo() = 1
        get(0, 4, 0) = 0; undo() = 0; undo() = NOT
        # 20 undo: the patch stays
        row(0, 4, 1) = 1; change(0, 4, 0, 1) = 1; lay() = 0; undo() = 0; count(0) = 1; text(0, NONE) = 5; hangs(0) = NOT
        # 20 undo: the draft and the text stay
        row(0, 4, 1) = 1; change(0, 4, 0, 1) = 1; lay() = 0; change(0, 4, 0, 1) = 1; type(48) = 1; undo() = 0; count(2) = 1; wipe() = 1
        """;

    private static final String REDO = """
        # 21 redo: NOT if nothing was undone
        redo() = NOT; row(0, 4, 1) = 1; change(0, 4, 0, 1) = 1; lay() = 0; redo() = NOT
        # 21 redo: NOT when all undone patches are applied again
        row(0, 4, 1) = 1; change(0, 4, 0, 1) = 1; lay() = 0; undo() = 0; redo() = 0; redo() = NOT; count(3) = 0
        # 21 redo: NOT for a patch that out(), with() or go() removed
        row(0, 4, 1) = 1; keep() = 0; change(0, 4, 0, 1) = 1; lay() = 0; out(0) = 0; redo() = NOT; again(0) = 1; with(0) = 1
        redo() = NOT; again(0) = 1; go(0) = 0; redo() = NOT
        # 21 redo: the latest undone patch comes first
        row(0, 4, 1) = 1; change(0, 4, 0, 1) = 1; lay() = 0; change(0, 4, 0, 2) = 1; lay() = 1; change(0, 4, 0, 3) = 1
        lay() = 2; undo() = 2; undo() = 1; redo() = 1; redo() = 2; get(0, 4, 0) = 3
        # 21 redo: the others stay in the list
        row(0, 4, 1) = 1; change(0, 4, 0, 1) = 1; lay() = 0; change(0, 4, 0, 2) = 1; lay() = 1; undo() = 1; undo() = 0
        redo() = 0; count(3) = 1; undo() = 0; count(3) = 2; redo() = 0; redo() = 1; count(3) = 0
        # 21 redo: on top, and the order is that of the redos
        row(0, 4, 1) = 1; change(0, 4, 0, 1) = 1; lay() = 0; change(0, 4, 0, 2) = 1; lay() = 1; swap(0) = 0; undo() = 0
        undo() = 1; redo() = 1; redo() = 0; order(0) = 1; order(1) = 0; count(8) = 0
        # 21 redo: a finding, and the list stays
        row(0, 4, 2) = 2; change(0, 4, 0, 1) = 1; change(0, 4, 1, 1) = 2; lay() = 0; undo() = 0; row(0, 4, 1) = 1; redo() = -15
        fault(0) = 0; fault(1) = 1; fault(2) = 5; count(3) = 1; get(0, 4, 0) = 0; row(0, 4, 2) = 2; redo() = 0; get(0, 4, 1) = 1
        # 21 redo: every finding of a thing that was put in place
        row(0, 4, 2) = 2; change(0, 4, 1, 1) = 1; lay() = 0; undo() = 0; lose(0) = 4; redo() = -11; row(0, 14, 2) = 0; redo() = -12
        row(0, 9, 2) = 2; redo() = -13; row(0, 3, 2) = 2; redo() = -14; row(0, 4, 1) = 1; redo() = -15; fault(2) = 5
        row(0, 5, 2) = 2; redo() = 0; what(0, 1) = 5
        # 21 redo: a finding is not counted by met()
        row(0, 4, 2) = 2; change(0, 4, 1, 1) = 1; lay() = 0; undo() = 0; row(0, 4, 1) = 1; redo() = -15; met(13, 5) = 0
        met(13, 0) = 1; row(0, 4, 2) = 2; redo() = 0; met(13, 0) = 1
        # 21 redo: a patch without changes
        row(0, 4, 1) = 1; change(0, 4, 0, 1) = 1; lay() = 0; change(0, 4, 0, 2) = 1; lay() = 1; prune() = 1; undo() = 1
        undo() = 0; lose(0) = 4; redo() = 0; redo() = -11
        """;

    private static final String TWO = """
        row(0, 4, 2) = 2; change(0, 4, 0, 1) = 1; lay() = 0; change(0, 4, 0, 2) = 1; lay() = 1; change(0, 4, 0, 3) = 1
        lay() = 2; undo() = 2; count(3) = 1
        """;

    /** Patches 0 and 1 are applied, patch 2 is undone, and then a method is carried out that empties the list. */
    private static final String REDO_EMPTIED =
        "# 21 redo: NOT after lay()\n" + TWO + "change(0, 4, 0, 4) = 1; count(3) = 1; lay() = 3; count(3) = 0; redo() = NOT\n"
        + "# 21 redo: NOT after again() of the undone patch\n" + TWO + "again(2) = 3; count(3) = 0; redo() = NOT\n"
        + "# 21 redo: NOT after again() of another patch\n" + TWO
        + "undo() = 1; undo() = 0; count(3) = 3; again(1) = 1; count(3) = 0; redo() = NOT\n"
        + "# 21 redo: NOT after out()\n" + TWO + "out(0) = 0; count(3) = 0; redo() = NOT\n"
        + "# 21 redo: NOT after lift()\n" + TWO + "lift(0) = 0; count(3) = 0; redo() = NOT\n"
        + "# 21 redo: NOT after lift() of the patch that is on top already\n" + TWO + "lift(1) = 0; count(3) = 0; redo() = NOT\n"
        + "# 21 redo: NOT after swap()\n" + TWO + "swap(0) = 0; count(3) = 0; redo() = NOT\n"
        + "# 21 redo: NOT after with()\n" + TWO + "with(0) = 1; count(3) = 0; redo() = NOT\n"
        + "# 21 redo: NOT after go()\n" + TWO + "keep() = 0; count(3) = 1; go(0) = 2; count(3) = 0; redo() = NOT\n"
        + "# 21 redo: NOT after settle()\n" + TWO + "settle() = 2; count(3) = 0; redo() = NOT\n"
        + "# 21 redo: NOT after settle() without applied patches\n" + TWO
        + "undo() = 1; undo() = 0; count(3) = 3; settle() = 0; count(3) = 0; redo() = NOT\n"
        + "# 22 again: the patches stay when the list of undone patches is emptied\n" + TWO
        + "lift(0) = 0; redo() = NOT; count(0) = 3; again(2) = 3; get(0, 4, 0) = 3\n";

    private static final String REDO_KEPT =
        "# 21 redo: the list stays if lay() is refused\n" + TWO
        + "lay() = NOT; count(3) = 1; change(0, 4, 9, 0) = 1; lay() = -15; count(3) = 1; redo() = 2\n"
        + "# 21 redo: the list stays if again() is refused\n" + TWO
        + "again(0) = NOT; again(3) = BAD; undo() = 1; undo() = 0; row(0, 4, 0) = 0; again(0) = -15; count(3) = 3\n"
        + "row(0, 4, 2) = 2; redo() = 0; redo() = 1; redo() = 2\n"
        + "# 21 redo: the list stays if out() is refused\n" + TWO + "out(2) = NOT; out(3) = BAD; out(-1) = BAD; redo() = 2\n"
        + "# 21 redo: the list stays if lift() is refused\n" + TWO + "lift(2) = NOT; lift(3) = BAD; lift(-1) = BAD; redo() = 2\n"
        + "# 21 redo: the list stays if swap() is refused\n" + TWO + "swap(1) = BAD; swap(-1) = BAD; redo() = 2\n"
        + "# 21 redo: the list stays if with() is refused\n" + TWO + "with(2) = NOT; with(3) = BAD; with(-1) = BAD; redo() = 2\n"
        + "# 21 redo: the list stays if go() is refused\n" + TWO
        + "go(0) = BAD; keep() = 0; undo() = 1; undo() = 0; row(0, 4, 0) = 0; go(0) = -15; count(3) = 3; go(1) = BAD\n"
        + "row(0, 4, 2) = 2; redo() = 0; redo() = 1; redo() = 2; redo() = NOT\n"
        + "# 21 redo: the list stays if out(), lift() and swap() are refused with a finding\n" + """
            row(0, 12, 1) = 1; row(1, 4, 1) = 1; change(0, 12, 0, 1) = 1; lay() = 0; move(0, 0, 8, 1, 0) = 1; lay() = 1
            change(0, 16, 0, 1) = 1; lay() = 2; change(1, 4, 0, 1) = 1; lay() = 3; undo() = 3; out(0) = -14; lift(0) = -14
            lift(1) = -14; swap(0) = -14; swap(1) = -14; count(3) = 1; redo() = 3
            """
        + "# 21 redo: the list stays if lay() is FULL\n" + """
            row(0, 4, 1) = 1
            times 24: change(0, 4, 0, 1); lay()
            undo() = 23; change(0, 4, 0, 1) = 1; lay() = FULL; redo() = 23
            """
        + "# 21 redo: the list stays by the draft's and the text's methods\n" + TWO + """
            change(0, 4, 0, 1) = 1; move(0, 0, 4, 0, 1) = 2; drop() = 1; type(48) = 1; wipe() = 1; read() = NOT; preview(0) = 0
            type 0e0=1
            read() = 2; count(3) = 1; redo() = 2
            """
        + "# 21 redo: the list stays by row() and lose() of other slots, keep() and prune()\n" + TWO
        + "row(1, 4, 1) = 1; lose(1) = 4; keep() = 0; prune() = 1; count(3) = 1; redo() = 2\n"
        + "# 21 redo: the list stays by without() and between()\n" + TWO
        + "keep() = 0; without(0, 0, 0) = 2; between(0, 0) = 0; count(3) = 1; redo() = 2\n";

    private static final String AGAIN = """
        # 22 again: p is -1
        row(0, 4, 1) = 1; change(0, 4, 0, 1) = 1; lay() = 0; undo() = 0; again(-1) = BAD
        # 22 again: p is the number of patches
        again(0) = BAD; row(0, 4, 1) = 1; change(0, 4, 0, 1) = 1; lay() = 0; undo() = 0; again(1) = BAD
        # 22 again: p is 24, the draft's number in text()
        again(24) = BAD; row(0, 4, 1) = 1; change(0, 4, 0, 1) = 1; again(24) = BAD
        # 22 again: p is the least and the greatest int
        again(MIN) = BAD; again(MAX) = BAD
        # 22 again: NOT if it is applied
        row(0, 4, 1) = 1; change(0, 4, 0, 1) = 1; lay() = 0; again(0) = NOT; undo() = 0; again(0) = 1; again(0) = NOT
        # 22 again: p is 0 and 23, and all 24 patches are applied then
        row(0, 4, 1) = 1
        times 24: change(0, 4, 0, 1); lay()
        out(0) = 0; undo() = 23; again(23) = 23; again(0) = 24; order(23) = 0; order(22) = 23; order(24) = BAD
        # 22 again: it is put on top, not where it was
        row(0, 4, 1) = 1; change(0, 4, 0, 1) = 1; lay() = 0; change(0, 4, 0, 2) = 1; lay() = 1; out(0) = 0; again(0) = 2
        order(0) = 1; order(1) = 0; get(0, 4, 0) = 1
        # 22 again: a finding, and nothing is done
        row(0, 4, 2) = 2; change(0, 4, 0, 1) = 1; change(0, 4, 1, 1) = 2; lay() = 0; out(0) = 0; row(0, 4, 1) = 1; again(0) = -15
        fault(0) = 0; fault(1) = 1; fault(2) = 5; get(0, 4, 0) = 0; count(1) = 0; met(13, 5) = 0
        # 22 again: a finding by what another patch has written meanwhile
        row(0, 12, 1) = 1; row(1, 4, 1) = 1; change(0, 12, 0, 1) = 1; lay() = 0; move(0, 0, 8, 1, 0) = 1; lay() = 1
        undo() = 1; change(0, 19, 0, 1) = 1; lay() = 2; again(1) = -14; fault(0) = 1; undo() = 2; again(1) = 2
        # 22 again: a patch without changes
        row(0, 4, 1) = 1; change(0, 4, 0, 1) = 1; lay() = 0; change(0, 4, 0, 2) = 1; lay() = 1; prune() = 1; out(0) = 0
        again(0) = 2; get(0, 4, 0) = 2; count(6) = 1
        # 22 again: a patch that go() removed
        row(0, 4, 1) = 1; keep() = 0; change(0, 4, 0, 1) = 1; lay() = 0; go(0) = 0; again(0) = 1; get(0, 4, 0) = 1
        """;

    private static final String OUT = """
        # 23 out: p is -1
        row(0, 4, 1) = 1; change(0, 4, 0, 1) = 1; lay() = 0; out(-1) = BAD
        # 23 out: p is the number of patches
        out(0) = BAD; row(0, 4, 1) = 1; change(0, 4, 0, 1) = 1; lay() = 0; out(1) = BAD
        # 23 out: p is 24, and the least and the greatest int
        change(0, 4, 0, 1) = 1; out(24) = BAD; out(MIN) = BAD; out(MAX) = BAD
        # 23 out: NOT if it is removed already
        row(0, 4, 1) = 1; change(0, 4, 0, 1) = 1; lay() = 0; out(0) = 0; out(0) = NOT; again(0) = 1; undo() = 0; out(0) = NOT
        # 23 out: the only patch
        row(0, 4, 1) = 1; change(0, 4, 0, 1) = 1; lay() = 0; out(0) = 0; count(1) = 0; count(0) = 1; count(3) = 0; get(0, 4, 0) = 0
        # 23 out: the lowest, the middle one, the one on top
        row(0, 4, 3) = 3; change(0, 4, 0, 1) = 1; lay() = 0; change(0, 4, 1, 2) = 1; lay() = 1; change(0, 4, 2, 3) = 1; lay() = 2
        out(1) = 0; order(0) = 0; order(1) = 2; get(0, 4, 1) = 0; out(2) = 0; order(0) = 0; order(1) = BAD; again(1) = 2
        out(0) = 0; order(0) = 1; get(0, 4, 0) = 0; get(0, 4, 1) = 2
        # 23 out: patch 23 and patch 0 of 24
        row(0, 4, 1) = 1
        times 24: change(0, 4, 0, 1); lay()
        out(23) = 0; out(0) = 0; count(1) = 22; order(0) = 1; order(21) = 22
        # 23 out: the value below comes out again
        row(0, 4, 1) = 1; change(0, 4, 0, 1) = 1; lay() = 0; change(0, 4, 0, 2) = 1; lay() = 1; out(1) = 0; get(0, 4, 0) = 1
        # 23 out: a value above stays
        row(0, 4, 1) = 1; change(0, 4, 0, 1) = 1; lay() = 0; change(0, 4, 0, 2) = 1; lay() = 1; out(0) = 0; get(0, 4, 0) = 2
        # 23 out: the finding that another patch would have, and nothing changes
        row(0, 12, 1) = 1; row(1, 11, 1) = 1; change(0, 13, 0, 1) = 1; lay() = 0; change(0, 12, 0, 1) = 1; lay() = 1
        change(1, 12, 0, 7) = 1; move(0, 0, 8, 1, 0) = 2; lay() = 2; out(1) = -14; fault(0) = 2; fault(1) = 1; fault(2) = 4
        count(1) = 3; order(1) = 1; get(1, 8, 0) = 1; met(17, 4) = 0; met(8, 0) = 2
        # 23 out: of several patches with a finding the first one in the order counts
        row(0, 12, 1) = 1; row(1, 4, 1) = 1; change(0, 12, 0, 1) = 1; lay() = 0; move(0, 0, 8, 1, 0) = 1; lay() = 1
        move(0, 0, 8, 1, 0) = 1; lay() = 2; out(0) = -14; fault(0) = 1; swap(1) = 0; out(0) = -14; fault(0) = 2
        # 23 out: a finding of the removed patch does not count
        row(0, 12, 1) = 1; row(1, 4, 1) = 1; change(0, 12, 0, 1) = 1; lay() = 0; move(0, 0, 8, 1, 0) = 1; lay() = 1
        out(1) = 0; out(0) = 0; again(1) = -14
        # 23 out: a patch without changes
        row(0, 4, 1) = 1; change(0, 4, 0, 1) = 1; lay() = 0; change(0, 4, 0, 2) = 1; lay() = 1; prune() = 1; out(0) = 0
        get(0, 4, 0) = 2; count(1) = 1
        """;

    private static final String MOVING = """
        # 23 out: no change moves if none reads what the patch wrote
        row(0, 4, 2) = 2; change(0, 4, 0, 1) = 1; lay() = 0; move(0, 1, 4, 0, 1) = 1; change(0, 4, 0, 2) = 2; lay() = 1; out(0) = 0
        # 23 out: the removed patch's own changes do not move
        row(0, 4, 2) = 2; change(0, 4, 0, 1) = 1; move(0, 0, 4, 0, 1) = 2; lay() = 0; out(0) = 0
        # 23 out: a copy that writes another value moves
        row(0, 4, 2) = 2; change(0, 4, 0, 1) = 1; lay() = 0; move(0, 0, 4, 0, 1) = 1; lay() = 1; out(0) = 1
        # 23 out: a copy that writes the same value does not move
        row(0, 4, 2) = 2; change(0, 4, 0, 0) = 1; lay() = 0; move(0, 0, 4, 0, 1) = 1; lay() = 1; out(0) = 0
        # 23 out: a copy whose element holds something else at the end moves
        row(0, 4, 2) = 2; change(0, 4, 0, 1) = 1; lay() = 0; move(0, 0, 4, 0, 1) = 1; change(0, 4, 1, 7) = 2; lay() = 1; out(0) = 1
        # 23 out: each change that moves is counted, along a chain
        row(0, 4, 6) = 6; change(0, 4, 0, 1) = 1; lay() = 0; move(0, 0, 4, 0, 1) = 1; move(0, 1, 4, 0, 2) = 2
        move(0, 2, 4, 0, 3) = 3; lay() = 1; move(0, 3, 4, 0, 4) = 1; change(0, 4, 3, 5) = 2; move(0, 3, 4, 0, 5) = 3; lay() = 2
        out(0) = 4
        # 23 out: a change of a patch that is removed before does not move
        row(0, 4, 3) = 3; change(0, 4, 0, 1) = 1; lay() = 0; move(0, 0, 4, 0, 1) = 1; lay() = 1; move(0, 0, 4, 0, 2) = 1
        lay() = 2; undo() = 2; out(0) = 1
        # 23 out: a copy of the same number with another type moves
        row(0, 12, 2) = 2; change(0, 9, 0, 5) = 1; lay() = 0; change(0, 12, 0, 5) = 1; lay() = 1; move(0, 0, 8, 0, 1) = 1
        lay() = 2; out(1) = 1; what(0, 1) = 1
        # 23 out: a copy of null in place of the number 0 moves
        row(0, 12, 2) = 2; change(0, 12, 0, 0) = 1; lay() = 0; move(0, 0, 8, 0, 1) = 1; lay() = 1; out(0) = 1; what(0, 1) = 11
        # 23 out: a copy of null in place of null does not move
        row(0, 12, 2) = 2; change(0, 19, 0, 0) = 1; lay() = 0; move(0, 0, 8, 0, 1) = 1; lay() = 1; out(0) = 0
        # 23 out: a copy of another Mark with the same int does not move
        row(0, 9, 2) = 2; change(0, 17, 0, 5) = 1; lay() = 0; change(0, 20, 0, 5) = 1; lay() = 1; move(0, 0, 8, 0, 1) = 1
        lay() = 2; out(1) = 0
        # 23 out: values that only a float rounds to the same do not move as floats
        row(0, 4, 1) = 1; row(1, 6, 1) = 1; row(2, 7, 1) = 1; change(0, 4, 0, 16777216) = 1; lay() = 0
        change(0, 4, 0, 16777217) = 1; lay() = 1; move(0, 0, 6, 1, 0) = 1; move(0, 0, 7, 2, 0) = 2; lay() = 2; out(1) = 1
        """;

    private static final String LIFT = """
        # 24 lift: p is -1
        row(0, 4, 1) = 1; change(0, 4, 0, 1) = 1; lay() = 0; lift(-1) = BAD
        # 24 lift: p is the number of patches
        lift(0) = BAD; row(0, 4, 1) = 1; change(0, 4, 0, 1) = 1; lay() = 0; lift(1) = BAD
        # 24 lift: p is 24, and the least and the greatest int
        change(0, 4, 0, 1) = 1; lift(24) = BAD; lift(MIN) = BAD; lift(MAX) = BAD
        # 24 lift: NOT if it is removed
        row(0, 4, 1) = 1; change(0, 4, 0, 1) = 1; lay() = 0; out(0) = 0; lift(0) = NOT
        # 24 lift: the only patch
        row(0, 4, 1) = 1; change(0, 4, 0, 1) = 1; lay() = 0; lift(0) = 0; order(0) = 0; count(1) = 1
        # 24 lift: the patch on top stays there
        row(0, 4, 1) = 1; change(0, 4, 0, 1) = 1; lay() = 0; change(0, 4, 0, 2) = 1; lay() = 1; lift(1) = 0; order(0) = 0
        order(1) = 1; get(0, 4, 0) = 2
        # 24 lift: the lowest patch, and the others keep their order
        row(0, 4, 1) = 1; change(0, 4, 0, 1) = 1; lay() = 0; change(0, 4, 0, 2) = 1; lay() = 1; change(0, 4, 0, 3) = 1; lay() = 2
        lift(0) = 0; order(0) = 1; order(1) = 2; order(2) = 0; get(0, 4, 0) = 1
        # 24 lift: patch 0 of 24
        row(0, 4, 1) = 1
        times 24: change(0, 4, 0, 1); lay()
        lift(0) = 0; order(0) = 1; order(22) = 23; order(23) = 0; count(8) = 0
        # 24 lift: a change of the lifted patch moves
        row(0, 4, 2) = 2; move(0, 0, 4, 0, 1) = 1; lay() = 0; change(0, 4, 0, 5) = 1; lay() = 1; lift(0) = 1; get(0, 4, 1) = 5
        # 24 lift: a change of a patch that is passed moves
        row(0, 4, 2) = 2; change(0, 4, 0, 5) = 1; lay() = 0; move(0, 0, 4, 0, 1) = 1; lay() = 1; lift(0) = 1; get(0, 4, 1) = 0
        # 24 lift: a write never moves, though the element holds something else then
        row(0, 4, 1) = 1; change(0, 4, 0, 5) = 1; lay() = 0; change(0, 4, 0, 6) = 1; lay() = 1; lift(0) = 0; get(0, 4, 0) = 5
        # 24 lift: a finding of the lifted patch
        row(0, 12, 1) = 1; row(1, 8, 1) = 1; move(0, 0, 8, 1, 0) = 1; lay() = 0; change(0, 12, 0, 1) = 1; lay() = 1; lift(0) = -14
        fault(0) = 0; fault(1) = 0; fault(2) = 4; order(0) = 0; count(1) = 2
        # 24 lift: a finding of a patch that is passed
        row(0, 12, 1) = 1; row(1, 4, 1) = 1; change(0, 12, 0, 1) = 1; lay() = 0; move(0, 0, 8, 1, 0) = 1; lay() = 1
        lift(0) = -14; fault(0) = 1; fault(1) = 0; fault(2) = 4; get(1, 4, 0) = 1; order(0) = 0
        # 24 lift: a patch without changes
        row(0, 4, 1) = 1; change(0, 4, 0, 1) = 1; lay() = 0; change(0, 4, 0, 2) = 1; lay() = 1; prune() = 1; lift(0) = 0
        order(1) = 0; get(0, 4, 0) = 2
        """;

    private static final String SWAP = """
        # 25 swap: no patch is applied
        swap(0) = BAD; swap(-1) = BAD
        # 25 swap: one patch is applied
        row(0, 4, 1) = 1; change(0, 4, 0, 1) = 1; lay() = 0; swap(0) = BAD; swap(-1) = BAD; swap(1) = BAD
        # 25 swap: k is -1
        row(0, 4, 1) = 1; change(0, 4, 0, 1) = 1; lay() = 0; change(0, 4, 0, 2) = 1; lay() = 1; swap(-1) = BAD
        # 25 swap: k is the index of the last one
        row(0, 4, 1) = 1; change(0, 4, 0, 1) = 1; lay() = 0; change(0, 4, 0, 2) = 1; lay() = 1; swap(1) = BAD; swap(2) = BAD
        # 25 swap: k is the least and the greatest int
        row(0, 4, 1) = 1; change(0, 4, 0, 1) = 1; lay() = 0; change(0, 4, 0, 2) = 1; lay() = 1; swap(MIN) = BAD; swap(MAX) = BAD
        # 25 swap: k is 0, the first two of three
        row(0, 4, 1) = 1; change(0, 4, 0, 1) = 1; lay() = 0; change(0, 4, 0, 2) = 1; lay() = 1; change(0, 4, 0, 3) = 1; lay() = 2
        swap(0) = 0; order(0) = 1; order(1) = 0; order(2) = 2; get(0, 4, 0) = 3
        # 25 swap: k is the last but one, the last two of three
        row(0, 4, 1) = 1; change(0, 4, 0, 1) = 1; lay() = 0; change(0, 4, 0, 2) = 1; lay() = 1; change(0, 4, 0, 3) = 1; lay() = 2
        swap(1) = 0; order(0) = 0; order(1) = 2; order(2) = 1; get(0, 4, 0) = 2
        # 25 swap: k is 22 and 23 of 24 patches
        row(0, 4, 1) = 1
        times 24: change(0, 4, 0, 1); lay()
        swap(23) = BAD; swap(22) = 0; order(22) = 23; order(23) = 22
        # 25 swap: k is an index, not a patch, and removed patches are not counted
        row(0, 4, 1) = 1; change(0, 4, 0, 1) = 1; lay() = 0; change(0, 4, 0, 2) = 1; lay() = 1; change(0, 4, 0, 3) = 1; lay() = 2
        out(0) = 0; swap(1) = BAD; swap(0) = 0; order(0) = 2; order(1) = 1
        # 25 swap: a change of the first one moves
        row(0, 4, 2) = 2; move(0, 0, 4, 0, 1) = 1; lay() = 0; change(0, 4, 0, 5) = 1; lay() = 1; swap(0) = 1; get(0, 4, 1) = 5
        # 25 swap: a change of the second one moves
        row(0, 4, 2) = 2; change(0, 4, 0, 5) = 1; lay() = 0; move(0, 0, 4, 0, 1) = 1; lay() = 1; swap(0) = 1; get(0, 4, 1) = 0
        # 25 swap: a change of a patch above moves
        row(0, 4, 2) = 2; change(0, 4, 0, 5) = 1; lay() = 0; change(0, 4, 0, 6) = 1; lay() = 1; move(0, 0, 4, 0, 1) = 1
        lay() = 2; swap(0) = 1; get(0, 4, 1) = 5
        # 25 swap: twice is as before
        row(0, 4, 2) = 2; change(0, 4, 0, 5) = 1; lay() = 0; move(0, 0, 4, 0, 1) = 1; lay() = 1; swap(0) = 1; swap(0) = 1
        order(0) = 0; get(0, 4, 1) = 5
        # 25 swap: a finding of a patch, and nothing changes
        row(0, 12, 1) = 1; row(1, 4, 1) = 1; change(0, 12, 0, 1) = 1; lay() = 0; move(0, 0, 8, 1, 0) = 1; lay() = 1
        swap(0) = -14; fault(0) = 1; fault(1) = 0; fault(2) = 4; order(0) = 0; order(1) = 1; get(1, 4, 0) = 1
        # 25 swap: a finding of a patch above the two
        row(0, 12, 1) = 1; row(1, 4, 1) = 1; change(0, 16, 0, 1) = 1; lay() = 0; change(0, 12, 0, 1) = 1; lay() = 1
        move(0, 0, 8, 1, 0) = 1; lay() = 2; swap(0) = -14; fault(0) = 2; order(0) = 0
        """;

    private static final String WITH = """
        # 26 with: p is -1
        row(0, 4, 1) = 1; change(0, 4, 0, 1) = 1; lay() = 0; with(-1) = BAD
        # 26 with: p is the number of patches
        with(0) = BAD; row(0, 4, 1) = 1; change(0, 4, 0, 1) = 1; lay() = 0; with(1) = BAD
        # 26 with: p is 24, and the least and the greatest int
        change(0, 4, 0, 1) = 1; with(24) = BAD; with(MIN) = BAD; with(MAX) = BAD
        # 26 with: NOT if it is removed already
        row(0, 4, 1) = 1; change(0, 4, 0, 1) = 1; lay() = 0; undo() = 0; with(0) = NOT
        # 26 with: a patch that no other one depends on
        row(0, 4, 2) = 2; change(0, 4, 0, 1) = 1; lay() = 0; change(0, 4, 0, 2) = 1; lay() = 1; with(0) = 1; order(0) = 1
        order(1) = BAD; get(0, 4, 0) = 2
        # 26 with: a patch that all others depend on
        row(0, 4, 1) = 1; change(0, 4, 0, 1) = 1; lay() = 0; move(0, 0, 4, 0, 0) = 1; lay() = 1; move(0, 0, 4, 0, 0) = 1
        lay() = 2; with(0) = 3; count(1) = 0; count(0) = 3; get(0, 4, 0) = 0
        # 26 with: all 24 patches
        row(0, 4, 1) = 1; change(0, 4, 0, 1) = 1; lay() = 0
        times 23: move(0, 0, 4, 0, 0); lay()
        with(0) = 24; count(1) = 0; count(3) = 0
        # 26 with: the patches that it depends on stay
        row(0, 4, 3) = 3; change(0, 4, 0, 1) = 1; lay() = 0; move(0, 0, 4, 0, 1) = 1; lay() = 1; move(0, 1, 4, 0, 2) = 1
        lay() = 2; with(1) = 2; order(0) = 0; count(1) = 1; get(0, 4, 0) = 1; get(0, 4, 1) = 0
        # 26 with: the others keep their order
        row(0, 4, 6) = 6; change(0, 4, 0, 1) = 1; lay() = 0; change(0, 4, 1, 1) = 1; lay() = 1; move(0, 0, 4, 0, 2) = 1
        lay() = 2; change(0, 4, 3, 1) = 1; lay() = 3; swap(2) = 0; with(0) = 2; order(0) = 1; order(1) = 3; order(2) = BAD
        # 26 with: what out() refuses for a finding, with() does
        row(0, 12, 1) = 1; row(1, 4, 1) = 1; change(0, 12, 0, 1) = 1; lay() = 0; move(0, 0, 8, 1, 0) = 1; lay() = 1
        out(0) = -14; with(0) = 2; get(1, 4, 0) = 0; fault(0) = 1; fault(2) = 4
        # 26 with: what it removed can be applied again
        row(0, 4, 2) = 2; change(0, 4, 0, 1) = 1; lay() = 0; move(0, 0, 4, 0, 1) = 1; lay() = 1; with(0) = 2; again(0) = 1
        again(1) = 2; get(0, 4, 1) = 1
        # 26 with: a patch without changes
        row(0, 4, 1) = 1; change(0, 4, 0, 1) = 1; lay() = 0; change(0, 4, 0, 2) = 1; lay() = 1; prune() = 1; with(0) = 1
        order(0) = 1; get(0, 4, 0) = 2
        """;

    private static final String HANGS = """
        # 27 hangs: p is -1
        row(0, 4, 1) = 1; change(0, 4, 0, 1) = 1; lay() = 0; hangs(-1) = BAD
        # 27 hangs: p is the number of patches
        hangs(0) = BAD; row(0, 4, 1) = 1; change(0, 4, 0, 1) = 1; lay() = 0; hangs(1) = BAD; hangs(0) = 0
        # 27 hangs: p is 24, and the least and the greatest int
        change(0, 4, 0, 1) = 1; hangs(24) = BAD; hangs(MIN) = BAD; hangs(MAX) = BAD
        # 27 hangs: NOT if it is removed
        row(0, 4, 1) = 1; change(0, 4, 0, 1) = 1; lay() = 0; undo() = 0; hangs(0) = NOT
        # 27 hangs: no patch
        row(0, 4, 2) = 2; change(0, 4, 0, 1) = 1; lay() = 0; change(0, 4, 0, 2) = 1; lay() = 1; hangs(0) = 0; hangs(1) = 0
        # 27 hangs: patch 0, in the lowest bit
        row(0, 4, 2) = 2; move(0, 0, 4, 0, 1) = 1; lay() = 0; change(0, 4, 0, 1) = 1; lay() = 1; swap(0) = 1; hangs(1) = 1
        hangs(0) = 0
        # 27 hangs: patch 23, in the highest bit
        row(0, 4, 2) = 2
        times 23: change(0, 4, 0, 1); lay()
        move(0, 0, 4, 0, 1) = 1; lay() = 23; hangs(22) = 8388608; hangs(21) = 0; hangs(0) = 0; hangs(23) = 0
        # 27 hangs: all others of 24
        row(0, 4, 1) = 1; change(0, 4, 0, 1) = 1; lay() = 0
        times 23: move(0, 0, 4, 0, 0); lay()
        hangs(0) = 16777214; hangs(22) = 8388608; hangs(23) = 0; hangs(11) = 16773120
        # 27 hangs: a patch that reads what it wrote itself does not depend on itself
        row(0, 4, 2) = 2; change(0, 4, 0, 1) = 1; move(0, 0, 4, 0, 1) = 2; lay() = 0; hangs(0) = 0
        # 27 hangs: a patch that reads what it wrote itself does not depend on the patch below
        row(0, 4, 2) = 2; change(0, 4, 0, 1) = 1; lay() = 0; change(0, 4, 0, 2) = 1; move(0, 0, 4, 0, 1) = 2; lay() = 1
        hangs(0) = 0
        # 27 hangs: a patch that reads before it writes itself depends on the patch below
        row(0, 4, 2) = 2; change(0, 4, 0, 1) = 1; lay() = 0; move(0, 0, 4, 0, 1) = 1; change(0, 4, 0, 2) = 2; lay() = 1
        hangs(0) = 2
        # 27 hangs: only the last change before the copy counts
        row(0, 4, 2) = 2; change(0, 4, 0, 1) = 1; lay() = 0; change(0, 4, 0, 2) = 1; lay() = 1; move(0, 0, 4, 0, 1) = 1
        lay() = 2; hangs(0) = 0; hangs(1) = 4; out(1) = 1; hangs(0) = 4
        # 27 hangs: a change after the copy does not count
        row(0, 4, 2) = 2; move(0, 0, 4, 0, 1) = 1; lay() = 0; change(0, 4, 0, 1) = 1; lay() = 1; hangs(1) = 0; hangs(0) = 0
        # 27 hangs: a write over an element does not depend on what it had
        row(0, 4, 2) = 2; change(0, 4, 0, 1) = 1; lay() = 0; change(0, 4, 0, 2) = 1; lay() = 1; hangs(0) = 0
        # 27 hangs: a copy to an element does not depend on what it had
        row(0, 4, 2) = 2; change(0, 4, 0, 1) = 1; lay() = 0; move(0, 1, 4, 0, 0) = 1; lay() = 1; hangs(0) = 0
        # 27 hangs: a copy of what no patch has written depends on none
        row(0, 4, 3) = 3; change(0, 4, 0, 1) = 1; lay() = 0; move(0, 2, 4, 0, 1) = 1; lay() = 1; hangs(0) = 0
        # 27 hangs: it depends also if the value is the same without
        row(0, 4, 2) = 2; change(0, 4, 0, 0) = 1; lay() = 0; move(0, 0, 4, 0, 1) = 1; lay() = 1; hangs(0) = 2
        # 27 hangs: it depends also if its copy is dead
        row(0, 4, 2) = 2; change(0, 4, 0, 1) = 1; lay() = 0; move(0, 0, 4, 0, 1) = 1; lay() = 1; change(0, 4, 1, 3) = 1; lay() = 2
        dead(1) = 1; hangs(0) = 2; prune() = 1; hangs(0) = 0
        # 27 hangs: a patch that depends on a patch that depends on it
        row(0, 4, 4) = 4; change(0, 4, 0, 1) = 1; lay() = 0; move(0, 0, 4, 0, 1) = 1; lay() = 1; move(0, 1, 4, 0, 2) = 1
        lay() = 2; move(0, 2, 4, 0, 3) = 1; lay() = 3; hangs(0) = 14; hangs(1) = 12; hangs(2) = 8; hangs(3) = 0
        # 27 hangs: also if it reads another element of the patch between
        row(0, 4, 4) = 4; change(0, 4, 0, 1) = 1; lay() = 0; move(0, 0, 4, 0, 1) = 1; change(0, 4, 2, 1) = 2; lay() = 1
        move(0, 2, 4, 0, 3) = 1; lay() = 2; hangs(0) = 6; hangs(1) = 4
        # 27 hangs: a patch that is removed is not in it, and none depends by it
        row(0, 4, 3) = 3; change(0, 4, 0, 1) = 1; lay() = 0; move(0, 0, 4, 0, 1) = 1; lay() = 1; move(0, 1, 4, 0, 2) = 1
        lay() = 2; hangs(0) = 6; out(1) = 1; hangs(0) = 0
        # 27 hangs: from one array to another
        row(0, 4, 12) = 12; row(5, 4, 12) = 12; change(5, 4, 11, 1) = 1; lay() = 0; move(5, 11, 4, 0, 11) = 1; lay() = 1
        move(0, 0, 4, 5, 0) = 1; lay() = 2; hangs(0) = 2; hangs(1) = 0
        # 27 hangs: the draft is not in it
        row(0, 4, 2) = 2; change(0, 4, 0, 1) = 1; lay() = 0; move(0, 0, 4, 0, 1) = 1; hangs(0) = 0
        """;

    private static final String WITHOUT = """
        # 28 without: p is -1
        row(0, 4, 1) = 1; change(0, 4, 0, 1) = 1; lay() = 0; without(-1, 0, 0) = !2
        # 28 without: p is the number of patches
        row(0, 4, 1) = 1; without(0, 0, 0) = !2; change(0, 4, 0, 1) = 1; lay() = 0; without(1, 0, 0) = !2; without(0, 0, 0) = 0
        # 28 without: p is 24, and the least and the greatest int
        row(0, 4, 1) = 1; change(0, 4, 0, 1) = 1; without(24, 0, 0) = !2; without(MIN, 0, 0) = !2; without(MAX, 0, 0) = !2
        # 28 without: s is -1
        row(0, 4, 1) = 1; change(0, 4, 0, 1) = 1; lay() = 0; without(0, -1, 0) = !2; without(0, MIN, 0) = !2
        # 28 without: s is 6
        row(0, 4, 1) = 1; change(0, 4, 0, 1) = 1; lay() = 0; without(0, 6, 0) = !2; without(0, MAX, 0) = !2
        # 28 without: s is 0 and 5
        row(0, 4, 1) = 1; row(5, 4, 1) = 1; change(0, 4, 0, 1) = 1; lay() = 0; change(5, 4, 0, 2) = 1; lay() = 1
        without(1, 0, 0) = 1; without(1, 5, 0) = 0; without(0, 0, 0) = 0; without(0, 5, 0) = 2
        # 28 without: NOT if the patch is removed
        row(0, 4, 1) = 1; change(0, 4, 0, 1) = 1; lay() = 0; undo() = 0; without(0, 0, 0) = !3
        # 28 without: BAD for s comes before NOT
        row(0, 4, 1) = 1; change(0, 4, 0, 1) = 1; lay() = 0; undo() = 0; without(0, 6, 0) = !2; without(0, -1, 0) = !2
        # 28 without: NOT comes before the findings of the element
        row(0, 4, 1) = 1; change(0, 4, 0, 1) = 1; lay() = 0; undo() = 0; without(0, 1, 0) = !3; without(0, 0, 1) = !3
        row(1, 14, 0) = 0; without(0, 1, 0) = !3
        # 28 without: finding 1, before 5
        row(0, 4, 1) = 1; change(0, 4, 0, 1) = 1; lay() = 0; without(0, 1, 0) = !11; without(0, 5, -1) = !11
        # 28 without: finding 2, before 5
        row(0, 4, 1) = 1; row(1, 13, 1) = 0; row(2, 14, 1) = 0; change(0, 4, 0, 1) = 1; lay() = 0; without(0, 1, 0) = !12
        without(0, 2, -1) = !12
        # 28 without: finding 5 at the index -1 and at the size
        row(0, 4, 1) = 1; row(1, 4, 12) = 12; change(0, 4, 0, 1) = 1; lay() = 0; without(0, 0, -1) = !15; without(0, 0, 1) = !15
        without(0, 1, 12) = !15; without(0, 1, 11) = 0; without(0, 1, MIN) = !15; without(0, 1, MAX) = !15
        # 28 without: the finding of another patch
        row(0, 12, 1) = 1; row(1, 4, 1) = 1; change(0, 12, 0, 1) = 1; lay() = 0; move(0, 0, 8, 1, 0) = 1; lay() = 1
        without(0, 1, 0) = !14; without(0, 0, 0) = !14
        # 28 without: the finding of the element comes before that of another patch
        row(0, 12, 1) = 1; row(1, 4, 1) = 1; change(0, 12, 0, 1) = 1; lay() = 0; move(0, 0, 8, 1, 0) = 1; lay() = 1
        without(0, 1, 1) = !15; without(0, 2, 0) = !11
        # 28 without: the finding of another patch comes before 6
        row(0, 12, 2) = 2; row(1, 4, 1) = 1; change(0, 12, 0, 1) = 1; lay() = 0; move(0, 0, 8, 1, 0) = 1; lay() = 1
        without(0, 0, 1) = !14; without(1, 0, 1) = !16
        # 28 without: finding 6 if the element would be null
        row(0, 12, 1) = 1; change(0, 12, 0, 1) = 1; lay() = 0; get(0, 8, 0) = 1; without(0, 0, 0) = !16
        # 28 without: a number where the element is null now
        row(0, 12, 1) = 1; change(0, 12, 0, 1) = 1; lay() = 0; change(0, 19, 0, 1) = 1; lay() = 1; without(1, 0, 0) = 1
        without(0, 0, 0) = !16
        # 28 without: the fault is not set
        row(0, 12, 1) = 1; row(1, 4, 1) = 1; change(0, 12, 0, 1) = 1; lay() = 0; move(0, 0, 8, 1, 0) = 1; lay() = 1
        without(0, 1, 0) = !14; fault(0) = NONE; fault(1) = NONE; fault(2) = NONE
        # 28 without: nothing stays changed
        row(0, 4, 2) = 2; change(0, 4, 0, 1) = 1; lay() = 0; move(0, 0, 4, 0, 1) = 1; lay() = 1; without(0, 0, 1) = 0
        get(0, 4, 1) = 1; count(1) = 2; order(0) = 0; blame(0, 0) = 0; trace(1, 0, 0) = 1; hangs(0) = 2
        # 28 without: a value that comes along a chain
        row(0, 4, 3) = 3; change(0, 4, 0, 1) = 1; lay() = 0; change(0, 4, 0, 2) = 1; lay() = 1; move(0, 0, 4, 0, 1) = 1
        move(0, 1, 4, 0, 2) = 2; lay() = 2; without(1, 0, 2) = 1; without(0, 0, 2) = 2; without(2, 0, 2) = 0
        # 28 without: an element that the patch has nothing to do with
        row(0, 4, 2) = 2; change(0, 4, 0, 1) = 1; lay() = 0; change(0, 4, 1, 7) = 1; lay() = 1; without(0, 0, 1) = 7
        # 28 without: the only patch, and a patch without changes
        row(0, 4, 1) = 1; change(0, 4, 0, 1) = 1; lay() = 0; without(0, 0, 0) = 0; change(0, 4, 0, 2) = 1; lay() = 1; prune() = 1
        without(0, 0, 0) = 2; without(1, 0, 0) = 0
        """;

    private static final String TRACE = """
        # 29 trace: p is -1
        row(0, 4, 1) = 1; change(0, 4, 0, 1) = 1; lay() = 0; trace(-1, 0, 0) = !2
        # 29 trace: p is the number of patches
        trace(0, 0, 0) = !2; row(0, 4, 1) = 1; change(0, 4, 0, 1) = 1; lay() = 0; trace(1, 0, 0) = !2; trace(0, 0, 0) = 1
        # 29 trace: p is 24, and the least and the greatest int
        row(0, 4, 1) = 1; change(0, 4, 0, 1) = 1; trace(24, 0, 0) = !2; trace(MIN, 0, 0) = !2; trace(MAX, 0, 0) = !2
        # 29 trace: k is -1
        row(0, 4, 1) = 1; change(0, 4, 0, 1) = 1; lay() = 0; change(0, 4, 0, 2) = 1; lay() = 1; trace(1, -1, 0) = !2
        trace(0, -1, 0) = !2
        # 29 trace: k is the number of changes
        row(0, 4, 1) = 1; change(0, 4, 0, 1) = 1; lay() = 0; change(0, 4, 0, 2) = 1; lay() = 1; trace(0, 1, 0) = !2
        trace(1, 1, 0) = !2; trace(0, 6, 0) = !2
        # 29 trace: k is 5, the last of six changes, and 6
        row(0, 4, 1) = 1; change(0, 4, 0, 1) = 1; change(0, 4, 0, 2) = 2; change(0, 4, 0, 3) = 3; change(0, 4, 0, 4) = 4
        change(0, 4, 0, 5) = 5; change(0, 4, 0, 6) = 6; lay() = 0; change(0, 4, 0, 9) = 1; lay() = 1; trace(0, 5, 0) = 6
        trace(0, 5, 1) = 5; trace(0, 6, 0) = !2; trace(0, 0, 1) = 0; trace(0, 0, 0) = 1
        # 29 trace: k is the least and the greatest int
        row(0, 4, 1) = 1; change(0, 4, 0, 1) = 1; lay() = 0; trace(0, MIN, 0) = !2; trace(0, MAX, 0) = !2
        # 29 trace: what is -1
        row(0, 4, 1) = 1; change(0, 4, 0, 1) = 1; lay() = 0; trace(0, 0, -1) = !2; trace(0, 0, MIN) = !2
        # 29 trace: what is 2
        row(0, 4, 1) = 1; change(0, 4, 0, 1) = 1; lay() = 0; trace(0, 0, 2) = !2; trace(0, 0, MAX) = !2
        # 29 trace: NOT if the patch is removed
        row(0, 4, 1) = 1; change(0, 4, 0, 1) = 1; lay() = 0; undo() = 0; trace(0, 0, 0) = !3; trace(0, 0, 1) = !3
        # 29 trace: BAD for k and what comes before NOT
        row(0, 4, 1) = 1; change(0, 4, 0, 1) = 1; lay() = 0; undo() = 0; trace(0, 1, 0) = !2; trace(0, -1, 0) = !2
        trace(0, 0, 2) = !2; trace(0, 0, -1) = !2
        # 29 trace: finding 6 of null before
        row(0, 12, 1) = 1; change(0, 12, 0, 1) = 1; lay() = 0; trace(0, 0, 1) = !16; trace(0, 0, 0) = 1
        # 29 trace: finding 6 of null after
        row(0, 12, 1) = 1; change(0, 12, 0, 1) = 1; change(0, 19, 0, 1) = 2; lay() = 0; trace(0, 1, 0) = !16; trace(0, 1, 1) = 1
        # 29 trace: the value directly before, also of a change of the same patch
        row(0, 4, 1) = 1; change(0, 4, 0, 1) = 1; lay() = 0; change(0, 4, 0, 2) = 1; change(0, 4, 0, 3) = 2; lay() = 1
        trace(1, 0, 1) = 1; trace(1, 0, 0) = 2; trace(1, 1, 1) = 2; trace(1, 1, 0) = 3
        # 29 trace: the value directly after, not the one at the end
        row(0, 4, 1) = 1; change(0, 4, 0, 1) = 1; lay() = 0; change(0, 4, 0, 2) = 1; lay() = 1; trace(0, 0, 0) = 1
        # 29 trace: the value has the array's type
        row(0, 7, 1) = 1; row(1, 5, 1) = 1; change(0, 4, 0, 3) = 1; change(1, 1, 0, 200) = 2; lay() = 0; trace(0, 0, 0) = 24
        trace(0, 1, 0) = -56
        # 29 trace: a copy
        row(0, 4, 2) = 2; change(0, 4, 0, 5) = 1; change(0, 4, 1, 6) = 2; lay() = 0; move(0, 0, 4, 0, 1) = 1; lay() = 1
        trace(1, 0, 0) = 5; trace(1, 0, 1) = 6
        # 29 trace: in another order
        row(0, 4, 1) = 1; change(0, 4, 0, 1) = 1; lay() = 0; change(0, 4, 0, 2) = 1; lay() = 1; trace(0, 0, 1) = 0
        trace(1, 0, 1) = 1; swap(0) = 0; trace(0, 0, 1) = 2; trace(1, 0, 1) = 0
        # 29 trace: a patch without changes
        row(0, 4, 1) = 1; change(0, 4, 0, 1) = 1; lay() = 0; change(0, 4, 0, 2) = 1; lay() = 1; prune() = 1; trace(0, 0, 0) = !2
        trace(1, 0, 1) = 0
        """;

    private static final String DEAD = """
        # 30 dead: p is -1
        row(0, 4, 1) = 1; change(0, 4, 0, 1) = 1; lay() = 0; dead(-1) = BAD
        # 30 dead: p is the number of patches
        dead(0) = BAD; row(0, 4, 1) = 1; change(0, 4, 0, 1) = 1; lay() = 0; dead(1) = BAD; dead(0) = 0
        # 30 dead: p is 24, and the least and the greatest int
        change(0, 4, 0, 1) = 1; dead(24) = BAD; dead(MIN) = BAD; dead(MAX) = BAD
        # 30 dead: NOT if it is removed
        row(0, 4, 1) = 1; change(0, 4, 0, 1) = 1; change(0, 4, 0, 1) = 2; lay() = 0; dead(0) = 1; undo() = 0; dead(0) = NOT
        # 30 dead: none
        row(0, 4, 6) = 6; change(0, 4, 0, 1) = 1; change(0, 4, 1, 1) = 2; change(0, 4, 2, 1) = 3; lay() = 0; dead(0) = 0
        # 30 dead: all six, and all but the last of six
        row(0, 4, 1) = 1
        times 6: change(0, 4, 0, 1)
        lay() = 0; dead(0) = 31; change(0, 4, 0, 1) = 1; lay() = 1; dead(0) = 63; dead(1) = 0; count(7) = 6
        # 30 dead: the last change of its element is live though it changes nothing
        row(0, 4, 1) = 1; change(0, 4, 0, 0) = 1; lay() = 0; dead(0) = 0; change(0, 4, 0, 0) = 1; lay() = 1; dead(1) = 0; dead(0) = 1
        # 30 dead: a change that a live copy reads is live
        row(0, 4, 2) = 2; change(0, 4, 0, 1) = 1; lay() = 0; move(0, 0, 4, 0, 1) = 1; lay() = 1; change(0, 4, 0, 2) = 1; lay() = 2
        dead(0) = 0; dead(1) = 0; dead(2) = 0
        # 30 dead: a change that only a dead copy reads is dead
        row(0, 4, 2) = 2; change(0, 4, 0, 1) = 1; lay() = 0; move(0, 0, 4, 0, 1) = 1; lay() = 1; change(0, 4, 0, 2) = 1
        change(0, 4, 1, 2) = 2; lay() = 2; dead(0) = 1; dead(1) = 1; dead(2) = 0
        # 30 dead: a dead copy reads what is the last change of its element, which is live
        row(0, 4, 2) = 2; change(0, 4, 0, 1) = 1; lay() = 0; move(0, 0, 4, 0, 1) = 1; lay() = 1; change(0, 4, 1, 2) = 1; lay() = 2
        dead(0) = 0; dead(1) = 1
        # 30 dead: if another change is between the change and the live copy, it is dead
        row(0, 4, 2) = 2; change(0, 4, 0, 1) = 1; lay() = 0; change(0, 4, 0, 2) = 1; lay() = 1; move(0, 0, 4, 0, 1) = 1
        change(0, 4, 0, 3) = 2; lay() = 2; dead(0) = 1; dead(1) = 0; dead(2) = 0
        # 30 dead: a copy before the change does not make it live
        row(0, 4, 2) = 2; move(0, 0, 4, 0, 1) = 1; lay() = 0; change(0, 4, 0, 1) = 1; lay() = 1; change(0, 4, 0, 2) = 1; lay() = 2
        dead(0) = 0; dead(1) = 1
        # 30 dead: a live copy of an element to itself
        row(0, 4, 1) = 1; change(0, 4, 0, 1) = 1; lay() = 0; move(0, 0, 4, 0, 0) = 1; lay() = 1; dead(0) = 0; dead(1) = 0
        change(0, 4, 0, 2) = 1; lay() = 2; dead(0) = 1; dead(1) = 1
        # 30 dead: a live copy from one slot to another
        row(0, 4, 1) = 1; row(1, 4, 2) = 2; change(0, 4, 0, 1) = 1; lay() = 0; move(0, 0, 4, 1, 1) = 1; lay() = 1
        change(0, 4, 0, 2) = 1; lay() = 2; dead(0) = 0; dead(1) = 0; change(1, 4, 1, 2) = 1; lay() = 3; dead(0) = 1; dead(1) = 1
        # 30 dead: along a chain of live copies, and along one that has become dead
        row(0, 4, 3) = 3; change(0, 4, 0, 1) = 1; move(0, 0, 4, 0, 1) = 2; move(0, 1, 4, 0, 2) = 3; change(0, 4, 0, 5) = 4
        change(0, 4, 1, 5) = 5; lay() = 0; dead(0) = 0; change(0, 4, 2, 5) = 1; lay() = 1; dead(0) = 7
        # 30 dead: two copies read it, one of them dead
        row(0, 4, 3) = 3; change(0, 4, 0, 1) = 1; move(0, 0, 4, 0, 1) = 2; move(0, 0, 4, 0, 2) = 3; change(0, 4, 0, 5) = 4
        change(0, 4, 1, 5) = 5; lay() = 0; dead(0) = 2
        # 30 dead: a removed patch makes nothing dead and nothing live
        row(0, 4, 2) = 2; change(0, 4, 0, 1) = 1; lay() = 0; change(0, 4, 0, 2) = 1; lay() = 1; dead(0) = 1; undo() = 1; dead(0) = 0
        # 30 dead: the draft makes nothing dead
        row(0, 4, 2) = 2; change(0, 4, 0, 1) = 1; lay() = 0; change(0, 4, 0, 2) = 1; dead(0) = 0; preview(0) = 0; dead(0) = 0
        # 30 dead: another element, another slot
        row(0, 4, 12) = 12; row(1, 4, 12) = 12; change(0, 4, 11, 1) = 1; change(1, 4, 11, 1) = 2; lay() = 0; change(0, 4, 0, 2) = 1
        change(1, 4, 0, 2) = 2; lay() = 1; dead(0) = 0; change(1, 4, 11, 2) = 1; lay() = 2; dead(0) = 2
        # 30 dead: in another order
        row(0, 4, 1) = 1; change(0, 4, 0, 1) = 1; lay() = 0; change(0, 4, 0, 2) = 1; lay() = 1; swap(0) = 0; dead(0) = 0
        dead(1) = 1; lift(1) = 0; dead(0) = 1; dead(1) = 0
        """;

    private static final String PRUNE = """
        # 31 prune: no patches
        prune() = 0
        # 31 prune: nothing is dead
        row(0, 4, 1) = 1; change(0, 4, 0, 1) = 1; lay() = 0; prune() = 0; count(6) = 1
        # 31 prune: one change
        row(0, 4, 1) = 1; change(0, 4, 0, 1) = 1; lay() = 0; change(0, 4, 0, 2) = 1; lay() = 1; prune() = 1; count(6) = 1
        count(7) = 0; prune() = 0
        # 31 prune: in several patches, several of one patch
        row(0, 4, 2) = 2; change(0, 4, 0, 1) = 1; change(0, 4, 1, 1) = 2; lay() = 0; change(0, 4, 0, 2) = 1; lay() = 1
        change(0, 4, 0, 3) = 1; change(0, 4, 1, 3) = 2; lay() = 2; prune() = 3; text(0, NONE) = 0; text(1, NONE) = 0
        text(2, NONE) = 11
        # 31 prune: the changes behind move up
        row(0, 4, 3) = 3; change(0, 4, 0, 1) = 1; change(0, 4, 1, 2) = 2; change(0, 4, 0, 3) = 3; change(0, 4, 2, 4) = 4; lay() = 0
        prune() = 1; text(0, NONE) = 17; text(0, 4) = 50; text(0, 10) = 51; text(0, 16) = 52; trace(0, 0, 0) = 2
        trace(0, 2, 0) = 4; trace(0, 3, 0) = !2; dead(0) = 0
        # 31 prune: all 144 changes but one
        row(0, 4, 1) = 1
        times 24: change(0, 4, 0, 1); change(0, 4, 0, 1); change(0, 4, 0, 1); change(0, 4, 0, 1); change(0, 4, 0, 1); change(0, 4, 0, 1); lay()
        count(6) = 144; prune() = 143; count(6) = 1; count(1) = 24; text(22, NONE) = 0; text(23, NONE) = 5
        # 31 prune: a patch without changes stays a patch, and stays applied
        row(0, 4, 1) = 1; change(0, 4, 0, 1) = 1; lay() = 0; change(0, 4, 0, 2) = 1; lay() = 1; prune() = 1; count(0) = 2
        count(1) = 2; order(0) = 0; text(0, NONE) = 0; hangs(0) = 0; dead(0) = 0
        # 31 prune: the list of undone patches stays
        row(0, 4, 1) = 1; change(0, 4, 0, 1) = 1; lay() = 0; change(0, 4, 0, 2) = 1; lay() = 1; change(0, 4, 0, 3) = 1; lay() = 2
        undo() = 2; prune() = 1; count(3) = 1; redo() = 2
        # 31 prune: a removed patch keeps its changes
        row(0, 4, 1) = 1; change(0, 4, 0, 1) = 1; change(0, 4, 0, 2) = 2; lay() = 0; undo() = 0; prune() = 0; text(0, NONE) = 11
        redo() = 0; prune() = 1; text(0, NONE) = 5
        # 31 prune: the draft keeps its changes
        row(0, 4, 1) = 1; change(0, 4, 0, 1) = 1; change(0, 4, 0, 2) = 2; prune() = 0; count(2) = 2
        # 31 prune: the arrays do not change
        row(0, 4, 3) = 3; change(0, 4, 0, 1) = 1; move(0, 0, 4, 0, 1) = 2; move(0, 0, 4, 0, 2) = 3; change(0, 4, 0, 5) = 4
        change(0, 4, 1, 6) = 5; lay() = 0; prune() = 1; get(0, 4, 0) = 5; get(0, 4, 1) = 6; get(0, 4, 2) = 1
        # 31 prune: what has been pruned does not come out again
        row(0, 4, 1) = 1; change(0, 4, 0, 1) = 1; lay() = 0; change(0, 4, 0, 2) = 1; lay() = 1; prune() = 1; undo() = 1
        get(0, 4, 0) = 0; trace(0, 0, 0) = !2
        # 31 prune: a version has the patches as they are then
        row(0, 4, 1) = 1; change(0, 4, 0, 1) = 1; lay() = 0; keep() = 0; change(0, 4, 0, 2) = 1; lay() = 1; prune() = 1
        count(4) = 1; go(0) = 1; get(0, 4, 0) = 0
        # 31 prune: the fault stays
        row(0, 4, 1) = 1; change(0, 4, 1, 1) = 1; lay() = -15; drop() = 0; change(0, 4, 0, 1) = 1; change(0, 4, 0, 2) = 2; lay() = 0
        prune() = 1; fault(0) = 24; fault(1) = 0; fault(2) = 5
        """;
}
