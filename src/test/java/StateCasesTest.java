/** The boundary cases of promises 32 to 42: the order, where values come from, versions, and what is told of all. */
public final class StateCasesTest {
    public static void main(String[] args) {
        Cases.run(ORDER + BLAME + SINCE + SETTLE);
        Cases.run(KEEP + GO + BETWEEN);
        everyElement();
        Cases.run(FAULT + MET + COUNT);
        everyWayMet();
        digests();
        Cases.finish("StateCasesTest", 32, 42);
    }

    private static final String ORDER = """
        # 32 order: k is -1
        order(-1) = BAD; row(0, 4, 1) = 1; change(0, 4, 0, 1) = 1; lay() = 0; order(-1) = BAD
        # 32 order: k is 0 and no patch is applied
        order(0) = BAD; row(0, 4, 1) = 1; change(0, 4, 0, 1) = 1; lay() = 0; undo() = 0; order(0) = BAD
        # 32 order: k is the number of applied patches
        row(0, 4, 1) = 1; change(0, 4, 0, 1) = 1; lay() = 0; order(0) = 0; order(1) = BAD; change(0, 4, 0, 1) = 1; lay() = 1
        order(1) = 1; order(2) = BAD; undo() = 1; order(1) = BAD
        # 32 order: k is 23 and 24
        row(0, 4, 1) = 1
        times 24: change(0, 4, 0, 1); lay()
        order(0) = 0; order(23) = 23; order(24) = BAD; lift(0) = 0; order(23) = 0; order(0) = 1
        # 32 order: k is the least and the greatest int
        row(0, 4, 1) = 1; change(0, 4, 0, 1) = 1; lay() = 0; order(MIN) = BAD; order(MAX) = BAD
        """;

    private static final String BLAME = """
        # 33 blame: s is -1
        blame(-1, 0) = BAD
        # 33 blame: s is 6
        blame(6, 0) = BAD
        # 33 blame: s is the least and the greatest int
        blame(MIN, 0) = BAD; blame(MAX, 0) = BAD
        # 33 blame: s is 0 and 5
        row(0, 4, 1) = 1; row(5, 4, 1) = 1; change(0, 4, 0, 1) = 1; lay() = 0; change(5, 4, 0, 1) = 1; lay() = 1; blame(0, 0) = 0
        blame(5, 0) = 1
        # 33 blame: finding 1, before 5
        blame(0, 0) = -11; blame(0, -1) = -11; fault(2) = NONE
        # 33 blame: finding 2, before 5
        row(0, 13, 1) = 0; row(1, 14, 1) = 0; blame(0, 0) = -12; blame(1, -1) = -12
        # 33 blame: finding 5 at the index -1 and at the size
        row(0, 4, 2) = 2; row(1, 4, 12) = 12; blame(0, -1) = -15; blame(0, 2) = -15; blame(0, 1) = NONE; blame(1, 12) = -15
        blame(1, 11) = NONE
        # 33 blame: finding 5 at the least and the greatest index, and in an array without elements
        row(0, 4, 2) = 2; row(1, 4, 0) = 0; blame(0, MIN) = -15; blame(0, MAX) = -15; blame(1, 0) = -15
        # 33 blame: NONE if no patch changes the element
        row(0, 4, 2) = 2; blame(0, 0) = NONE; change(0, 4, 0, 1) = 1; lay() = 0; blame(0, 1) = NONE
        # 33 blame: NONE if only a removed patch and the draft change it
        row(0, 4, 1) = 1; change(0, 4, 0, 1) = 1; lay() = 0; blame(0, 0) = 0; undo() = 0; change(0, 4, 0, 2) = 1; preview(0) = 0
        blame(0, 0) = NONE
        # 33 blame: NONE if a patch only reads it
        row(0, 4, 2) = 2; move(0, 0, 4, 0, 1) = 1; lay() = 0; blame(0, 0) = NONE; blame(0, 1) = 0
        # 33 blame: the last one of several patches
        row(0, 4, 1) = 1; change(0, 4, 0, 1) = 1; lay() = 0; change(0, 4, 0, 2) = 1; lay() = 1; blame(0, 0) = 1; swap(0) = 0
        blame(0, 0) = 0
        # 33 blame: also if its change has put the same value there
        row(0, 4, 1) = 1; change(0, 4, 0, 0) = 1; lay() = 0; blame(0, 0) = 0; change(0, 4, 0, 0) = 1; lay() = 1; blame(0, 0) = 1
        # 33 blame: patch 23
        row(0, 4, 1) = 1
        times 24: change(0, 4, 0, 1); lay()
        blame(0, 0) = 23; undo() = 23; blame(0, 0) = 22
        # 33 blame: NONE after settle()
        row(0, 4, 1) = 1; change(0, 4, 0, 1) = 1; lay() = 0; settle() = 1; blame(0, 0) = NONE; get(0, 4, 0) = 1
        # 33 blame: the patch whose change is left after prune()
        row(0, 4, 1) = 1; change(0, 4, 0, 1) = 1; lay() = 0; change(0, 4, 0, 2) = 1; lay() = 1; prune() = 1; blame(0, 0) = 1
        undo() = 1; blame(0, 0) = NONE
        """;

    private static final String SINCE = """
        # 34 since: s is -1
        since(-1, 0) = BAD
        # 34 since: s is 6
        since(6, 0) = BAD
        # 34 since: s is the least and the greatest int
        since(MIN, 0) = BAD; since(MAX, 0) = BAD
        # 34 since: s is 0 and 5
        row(0, 4, 1) = 1; row(5, 4, 1) = 1; change(0, 4, 0, 1) = 1; lay() = 0; change(5, 4, 0, 1) = 1; lay() = 1; since(0, 0) = 1
        since(5, 0) = 2
        # 34 since: finding 1, before 5
        since(0, 0) = -11; since(0, -1) = -11; fault(2) = NONE
        # 34 since: finding 2, before 5
        row(0, 13, 1) = 0; row(1, 14, 1) = 0; since(0, 0) = -12; since(1, -1) = -12
        # 34 since: finding 5 at the index -1 and at the size
        row(0, 4, 2) = 2; row(1, 4, 12) = 12; since(0, -1) = -15; since(0, 2) = -15; since(0, 1) = 0; since(1, 12) = -15; since(1, 11) = 0
        # 34 since: finding 5 at the least and the greatest index, and in an array without elements
        row(0, 4, 2) = 2; row(1, 4, 0) = 0; since(0, MIN) = -15; since(0, MAX) = -15; since(1, 0) = -15
        # 34 since: 0 if no patch is applied
        row(0, 4, 1) = 1; since(0, 0) = 0; change(0, 4, 0, 1) = 1; lay() = 0; undo() = 0; since(0, 0) = 0
        # 34 since: 0 if no patch changes it
        row(0, 4, 2) = 2; change(0, 4, 0, 1) = 1; lay() = 0; change(0, 4, 0, 2) = 1; lay() = 1; since(0, 1) = 0
        # 34 since: 0 if patches only write what the base has
        row(0, 4, 1) = 1; change(0, 4, 0, 0) = 1; lay() = 0; change(0, 4, 0, 0) = 1; lay() = 1; since(0, 0) = 0
        # 34 since: the number of applied patches
        row(0, 4, 1) = 1; change(0, 4, 0, 1) = 1; lay() = 0; since(0, 0) = 1; change(0, 4, 0, 2) = 1; lay() = 1; since(0, 0) = 2
        # 34 since: 24 patches
        row(0, 4, 2) = 2; change(0, 4, 1, 1) = 1; lay() = 0
        times 22: change(0, 4, 0, 1); lay()
        change(0, 4, 0, 2) = 1; lay() = 23; since(0, 0) = 24; since(0, 1) = 1; undo() = 23; since(0, 0) = 2
        # 34 since: a later patch that writes an equal value does not count
        row(0, 4, 1) = 1; change(0, 4, 0, 1) = 1; lay() = 0; change(0, 4, 0, 1) = 1; lay() = 1; since(0, 0) = 1
        # 34 since: the value was there before and has gone meanwhile
        row(0, 4, 1) = 1; change(0, 4, 0, 1) = 1; lay() = 0; change(0, 4, 0, 2) = 1; lay() = 1; change(0, 4, 0, 1) = 1; lay() = 2
        since(0, 0) = 3
        # 34 since: the base's value was gone and is back
        row(0, 4, 1) = 1; change(0, 4, 0, 1) = 1; lay() = 0; change(0, 4, 0, 0) = 1; lay() = 1; since(0, 0) = 2
        # 34 since: a value that only passes within a patch does not count
        row(0, 4, 1) = 1; change(0, 4, 0, 1) = 1; lay() = 0; change(0, 4, 0, 2) = 1; change(0, 4, 0, 1) = 2; lay() = 1; since(0, 0) = 1
        # 34 since: a patch puts it there, takes it away and puts it there again
        row(0, 4, 1) = 1; change(0, 4, 0, 1) = 1; change(0, 4, 0, 2) = 2; change(0, 4, 0, 1) = 3; lay() = 0; since(0, 0) = 1
        # 34 since: the same number with another type is another value
        row(0, 12, 1) = 1; change(0, 12, 0, 5) = 1; lay() = 0; change(0, 9, 0, 5) = 1; lay() = 1; since(0, 0) = 2
        # 34 since: null and the number 0
        row(0, 12, 1) = 1; change(0, 12, 0, 0) = 1; lay() = 0; since(0, 0) = 1; change(0, 19, 0, 0) = 1; lay() = 1; since(0, 0) = 2
        # 34 since: another Mark with the same int is an equal value
        row(0, 9, 1) = 1; change(0, 17, 0, 5) = 1; lay() = 0; change(0, 20, 0, 5) = 1; lay() = 1; since(0, 0) = 1
        # 34 since: a patch that has nothing to do with it counts in the order
        row(0, 4, 2) = 2; change(0, 4, 1, 1) = 1; lay() = 0; change(0, 4, 0, 1) = 1; lay() = 1; change(0, 4, 1, 2) = 1; lay() = 2
        since(0, 0) = 2; since(0, 1) = 3
        # 34 since: 0 after settle()
        row(0, 4, 1) = 1; change(0, 4, 0, 1) = 1; lay() = 0; settle() = 1; since(0, 0) = 0
        # 34 since: a copy
        row(0, 4, 2) = 2; change(0, 4, 0, 1) = 1; lay() = 0; move(0, 0, 4, 0, 1) = 1; lay() = 1; since(0, 1) = 2; since(0, 0) = 1
        """;

    private static final String SETTLE = """
        # 35 settle: no patches
        settle() = 0
        # 35 settle: patches, but none is applied
        row(0, 4, 1) = 1; change(0, 4, 0, 1) = 1; lay() = 0; undo() = 0; settle() = 0; count(0) = 0; get(0, 4, 0) = 0; again(0) = BAD
        # 35 settle: 24 applied patches
        row(0, 4, 1) = 1
        times 24: change(0, 4, 0, 7); lay()
        settle() = 24; count(0) = 0; count(1) = 0; get(0, 4, 0) = 7
        # 35 settle: the content of every array becomes its base
        row(0, 4, 12) = 12; row(5, 12, 12) = 12; change(0, 4, 0, 1) = 1; change(0, 4, 11, 2) = 2; change(5, 16, 0, 3) = 3
        change(5, 12, 11, 4) = 4; lay() = 0; settle() = 1; get(0, 4, 0) = 1; get(0, 4, 11) = 2; get(5, 8, 0) = 3; get(5, 8, 11) = 4
        changed(0) = 0; changed(5) = 0; count(5) = 0
        # 35 settle: patches go back to the new base
        row(0, 4, 1) = 1; change(0, 4, 0, 1) = 1; lay() = 0; settle() = 1; change(0, 4, 0, 2) = 1; lay() = 0; undo() = 0
        get(0, 4, 0) = 1
        # 35 settle: removed patches are removed for good
        row(0, 4, 1) = 1; change(0, 4, 0, 1) = 1; lay() = 0; change(0, 4, 0, 2) = 1; lay() = 1; out(0) = 0; settle() = 1
        again(0) = BAD; again(1) = BAD; text(0, NONE) = BAD; get(0, 4, 0) = 2
        # 35 settle: the versions are removed
        keep() = 0; keep() = 1; settle() = 0; count(4) = 0; go(0) = BAD; between(0, 0) = BAD; keep() = 0
        # 35 settle: the draft stays
        row(0, 4, 1) = 1; change(0, 4, 0, 1) = 1; lay() = 0; change(0, 4, 0, 7) = 1; move(0, 0, 4, 0, 0) = 2; settle() = 1
        count(2) = 2; text(24, NONE) = 13; lay() = 0; get(0, 4, 0) = 7
        # 35 settle: the fault stays
        change(0, 4, 3, 1) = 1; row(0, 4, 1) = 1; lay() = -15; settle() = 0; fault(0) = 24; fault(1) = 0; fault(2) = 5
        # 35 settle: the fault stays though its patch is gone
        row(0, 4, 1) = 1; change(0, 4, 0, 1) = 1; lay() = 0; undo() = 0; lose(0) = 4; redo() = -11; settle() = 0; fault(0) = 0
        fault(2) = 1; text(0, NONE) = BAD
        # 35 settle: the counts of met() stay
        row(0, 4, 1) = 1; change(0, 4, 0, 1) = 1; lay() = 0; get(0, 4, 0) = 1; get(0, 4, 1) = !15; settle() = 1; met(13, 0) = 1
        met(4, 0) = 1; met(4, 5) = 1
        # 35 settle: the text stays
        type(48) = 1; settle() = 0; flaw() = 1; wipe() = 1
        # 35 settle: the slots keep their things
        row(0, 14, 0) = 0; row(1, 12, 2) = 2; settle() = 0; kind(0) = 14; size(1) = 2; kind(2) = -11; what(1, 0) = 11
        # 35 settle: the slots can be filled anew
        row(0, 4, 1) = 1; change(0, 4, 0, 1) = 1; lay() = 0; row(0, 4, 1) = NOT; settle() = 1; row(0, 4, 1) = 1; get(0, 4, 0) = 0
        # 35 settle: twice
        row(0, 4, 1) = 1; change(0, 4, 0, 1) = 1; lay() = 0; settle() = 1; settle() = 0; get(0, 4, 0) = 1
        """;

    private static final String KEEP = """
        # 36 keep: the first version is number 0, the sixth has room and is number 5
        keep() = 0; keep() = 1; keep() = 2; keep() = 3; keep() = 4; keep() = 5; count(4) = 6
        # 36 keep: FULL for the seventh
        times 6: keep()
        keep() = FULL; count(4) = 6
        # 36 keep: after settle() there is room again, from number 0 on
        times 6: keep()
        settle() = 0; keep() = 0; count(4) = 1
        # 36 keep: a version of no patches
        row(0, 4, 1) = 1; keep() = 0; change(0, 4, 0, 1) = 1; lay() = 0; go(0) = 0; get(0, 4, 0) = 0
        # 36 keep: a version of 24 patches
        row(0, 4, 1) = 1
        times 24: change(0, 4, 0, 1); lay()
        swap(22) = 0; keep() = 0; with(0) = 1; go(0) = 24; order(0) = 0; order(22) = 23; order(23) = 22
        # 36 keep: the same version twice
        row(0, 4, 1) = 1; change(0, 4, 0, 1) = 1; lay() = 0; keep() = 0; keep() = 1; between(0, 1) = 0; undo() = 0; go(1) = 1
        # 36 keep: what is applied, not what is there
        row(0, 4, 1) = 1; change(0, 4, 0, 1) = 1; lay() = 0; change(0, 4, 0, 2) = 1; lay() = 1; out(0) = 0; keep() = 0; again(0) = 2
        go(0) = 1; order(0) = 1
        # 36 keep: later calls do not change the version
        row(0, 4, 1) = 1; change(0, 4, 0, 1) = 1; lay() = 0; change(0, 4, 0, 2) = 1; lay() = 1; keep() = 0; swap(0) = 0; undo() = 0
        out(1) = 0; change(0, 4, 0, 3) = 1; lay() = 2; go(0) = 2; order(0) = 0; order(1) = 1; get(0, 4, 0) = 2
        """;

    private static final String GO = """
        # 37 go: v is -1
        go(-1) = BAD; keep() = 0; go(-1) = BAD
        # 37 go: v is the number of versions
        go(0) = BAD; keep() = 0; go(0) = 0; go(1) = BAD
        # 37 go: v is 5 and 6
        times 6: keep()
        go(5) = 0; go(6) = BAD
        # 37 go: v is the least and the greatest int
        keep() = 0; go(MIN) = BAD; go(MAX) = BAD
        # 37 go: a version that settle() removed
        keep() = 0; settle() = 0; go(0) = BAD
        # 37 go: all others are removed, and stay
        row(0, 4, 1) = 1; change(0, 4, 0, 1) = 1; lay() = 0; keep() = 0; change(0, 4, 0, 2) = 1; lay() = 1; go(0) = 1
        order(0) = 0; order(1) = BAD; count(0) = 2; count(3) = 0; again(1) = 2; get(0, 4, 0) = 2
        # 37 go: removed patches are applied again, in the version's order
        row(0, 4, 1) = 1; change(0, 4, 0, 1) = 1; lay() = 0; change(0, 4, 0, 2) = 1; lay() = 1; swap(0) = 0; keep() = 0
        with(0) = 1; with(1) = 1; go(0) = 2; order(0) = 1; order(1) = 0; get(0, 4, 0) = 1
        # 37 go: the version that stands already
        row(0, 4, 1) = 1; change(0, 4, 0, 1) = 1; lay() = 0; keep() = 0; go(0) = 1; get(0, 4, 0) = 1
        # 37 go: a finding, and nothing is done
        row(0, 4, 2) = 2; row(1, 4, 1) = 1; change(1, 4, 0, 1) = 1; lay() = 0; change(1, 4, 0, 2) = 1; change(0, 4, 1, 1) = 2
        lay() = 1; keep() = 0; undo() = 1; row(0, 4, 1) = 1; go(0) = -15; fault(0) = 1; fault(1) = 1; fault(2) = 5; count(1) = 1
        get(1, 4, 0) = 1; met(13, 5) = 0
        # 37 go: of several patches with a finding the first one in the version's order counts
        row(0, 4, 1) = 1; change(0, 4, 0, 1) = 1; lay() = 0; change(0, 4, 0, 2) = 1; lay() = 1; keep() = 0; swap(0) = 0; keep() = 1
        with(0) = 1; with(1) = 1; lose(0) = 4; go(0) = -11; fault(0) = 0; go(1) = -11; fault(0) = 1
        # 37 go: a finding that has gone
        row(0, 4, 1) = 1; change(0, 4, 0, 1) = 1; lay() = 0; keep() = 0; undo() = 0; lose(0) = 4; go(0) = -11; row(0, 7, 1) = 1
        go(0) = 1; get(0, 7, 0) = 8
        """;

    private static final String BETWEEN = """
        # 38 between: v is -1
        keep() = 0; between(-1, 0) = BAD
        # 38 between: w is -1
        keep() = 0; between(0, -1) = BAD
        # 38 between: v and w are the number of versions
        between(0, 0) = BAD; keep() = 0; between(0, 0) = 0; between(1, 0) = BAD; between(0, 1) = BAD
        # 38 between: v and w are 5 and 6
        times 6: keep()
        between(5, 5) = 0; between(0, 5) = 0; between(6, 0) = BAD; between(0, 6) = BAD
        # 38 between: v and w are the least and the greatest int
        keep() = 0; between(MIN, 0) = BAD; between(0, MIN) = BAD; between(MAX, 0) = BAD; between(0, MAX) = BAD
        # 38 between: BAD for w comes before a finding of v
        row(0, 4, 1) = 1; change(0, 4, 0, 1) = 1; lay() = 0; keep() = 0; undo() = 0; lose(0) = 4; between(0, 1) = BAD
        between(0, -1) = BAD; between(0, 0) = -11
        # 38 between: a finding of v
        row(0, 4, 1) = 1; keep() = 0; change(0, 4, 0, 1) = 1; lay() = 0; keep() = 1; undo() = 0; lose(0) = 4; between(1, 0) = -11
        # 38 between: a finding of w
        row(0, 4, 1) = 1; keep() = 0; change(0, 4, 0, 1) = 1; lay() = 0; keep() = 1; undo() = 0; lose(0) = 4; between(0, 1) = -11
        # 38 between: a finding of v comes before one of w
        row(0, 4, 1) = 1; row(1, 4, 1) = 1; change(0, 4, 0, 1) = 1; lay() = 0; keep() = 0; undo() = 0; change(1, 4, 0, 1) = 1
        lay() = 1; keep() = 1; undo() = 1; lose(0) = 4; row(1, 14, 0) = 0; between(0, 1) = -11; between(1, 0) = -12
        # 38 between: the fault is not set
        row(0, 4, 1) = 1; keep() = 0; change(0, 4, 0, 1) = 1; lay() = 0; keep() = 1; undo() = 0; lose(0) = 4; between(0, 1) = -11
        between(1, 0) = -11; fault(0) = NONE; fault(1) = NONE; fault(2) = NONE
        # 38 between: no arrays
        keep() = 0; between(0, 0) = 0; row(0, 14, 0) = 0; between(0, 0) = 0
        # 38 between: a version and itself
        row(0, 4, 1) = 1; change(0, 4, 0, 1) = 1; lay() = 0; keep() = 0; between(0, 0) = 0
        # 38 between: either way round
        row(0, 4, 2) = 2; keep() = 0; change(0, 4, 0, 1) = 1; lay() = 0; keep() = 1; between(0, 1) = 1; between(1, 0) = 1
        # 38 between: the same patches in another order
        row(0, 4, 2) = 2; change(0, 4, 0, 1) = 1; lay() = 0; change(0, 4, 0, 2) = 1; move(0, 0, 4, 0, 1) = 2; lay() = 1; keep() = 0
        swap(0) = 0; keep() = 1; between(0, 1) = 1
        # 38 between: neither of them stands
        row(0, 4, 2) = 2; change(0, 4, 0, 1) = 1; lay() = 0; keep() = 0; change(0, 4, 1, 2) = 1; lay() = 1; keep() = 1
        change(0, 4, 0, 5) = 1; change(0, 4, 1, 5) = 2; lay() = 2; between(0, 1) = 1; get(0, 4, 0) = 5; count(1) = 3
        # 38 between: the same number with another type
        row(0, 12, 1) = 1; change(0, 12, 0, 5) = 1; lay() = 0; keep() = 0; change(0, 9, 0, 5) = 1; lay() = 1; keep() = 1
        between(0, 1) = 1
        # 38 between: null and the number 0
        row(0, 12, 1) = 1; keep() = 0; change(0, 12, 0, 0) = 1; lay() = 0; keep() = 1; between(0, 1) = 1
        # 38 between: null and null, a Mark and another one with the same int
        row(0, 12, 1) = 1; row(1, 9, 1) = 1; change(1, 17, 0, 5) = 1; lay() = 0; keep() = 0; change(0, 19, 0, 0) = 1
        change(1, 20, 0, 5) = 2; lay() = 1; keep() = 1; between(0, 1) = 0
        # 38 between: on the bases as they are now
        row(0, 4, 2) = 2; keep() = 0; change(0, 4, 0, 0) = 1; lay() = 0; keep() = 1; between(0, 1) = 0; undo() = 0
        row(0, 12, 1) = 1; change(0, 12, 0, 5) = 1; lay() = 1; between(0, 0) = 0; between(0, 1) = -13
        # 38 between: nothing stays changed
        row(0, 4, 1) = 1; keep() = 0; change(0, 4, 0, 1) = 1; lay() = 0; keep() = 1; change(0, 4, 0, 2) = 1; lay() = 1
        between(0, 1) = 1; get(0, 4, 0) = 2; order(0) = 0; order(1) = 1; blame(0, 0) = 1; trace(1, 0, 1) = 1; dead(0) = 1
        """;

    /** Six arrays of 12 elements, all of them changed by 12 patches of six changes. */
    private static void everyElement() {
        Cases.noteName("38 between: all 72 elements of six arrays");
        Cases.noteName("41 count: all 72 elements, and 144 changes of 24 patches");
        PatchDesk desk = new PatchDesk();
        for (int s = 0; s < 6; s++) {
            desk.row(s, 4, 12);
        }
        desk.keep();
        for (int round = 0; round < 2; round++) {
            for (int cell = 0; cell < 72; cell++) {
                desk.change(cell / 12, 4, cell % 12, cell + 1);
                if (cell % 6 == 5) {
                    desk.lay();
                }
            }
        }
        desk.keep();
        Calls.on(desk, "38 between", "between(0, 1) = 72; between(1, 0) = 72; between(1, 1) = 0");
        Calls.on(desk, "41 count", "count(5) = 72; count(6) = 144; count(7) = 72; count(0) = 24; count(1) = 24");
        Calls.on(desk, "41 count", "changed(5) = 12; since(5, 11) = 12; blame(5, 11) = 23; blame(0, 0) = 12; prune() = 72");
        Calls.on(desk, "38 between", "between(0, 1) = 72; count(5) = 72; count(6) = 72; go(0) = 0; count(5) = 0");
    }

    private static final String FAULT = """
        # 39 fault: what is -1
        fault(-1) = BAD; change(0, 4, 0, 1) = 1; lay() = -11; fault(-1) = BAD
        # 39 fault: what is 3
        fault(3) = BAD; change(0, 4, 0, 1) = 1; lay() = -11; fault(3) = BAD
        # 39 fault: what is the least and the greatest int
        fault(MIN) = BAD; fault(MAX) = BAD
        # 39 fault: NONE if there has been no fault
        fault(0) = NONE; fault(1) = NONE; fault(2) = NONE
        # 39 fault: NONE if methods were refused for other reasons only
        lay() = NOT; undo() = NOT; redo() = NOT; again(0) = BAD; go(0) = BAD; lose(0) = -11; row(0, 4, -1) = -17; size(0) = -11
        change(0, 4, 0, 1) = 1; preview(0) = 1; get(0, 4, 0) = !11; fault(0) = NONE; fault(1) = NONE; fault(2) = NONE
        # 39 fault: 24 for the draft
        change(0, 4, 0, 1) = 1; lay() = -11; fault(0) = 24; fault(1) = 0; fault(2) = 1
        # 39 fault: patch 0, change 0, finding 1
        row(0, 4, 1) = 1; change(0, 4, 0, 1) = 1; lay() = 0; undo() = 0; lose(0) = 4; redo() = -11; fault(0) = 0; fault(1) = 0
        fault(2) = 1
        # 39 fault: patch 23, change 5, finding 5
        row(0, 4, 1) = 1; row(1, 4, 1) = 1
        times 23: change(0, 4, 0, 1); lay()
        times 5: change(0, 4, 0, 1)
        change(1, 4, 0, 1) = 6; lay() = 23; undo() = 23; row(1, 4, 0) = 0; again(23) = -15; fault(0) = 23; fault(1) = 5; fault(2) = 5
        # 39 fault: it stays when later methods are carried out
        change(0, 4, 0, 1) = 1; lay() = -11; row(0, 4, 1) = 1; lay() = 0; undo() = 0; redo() = 0; keep() = 0; go(0) = 1; lift(0) = 0
        fault(0) = 24; fault(1) = 0; fault(2) = 1
        # 39 fault: it stays when later methods are refused for other reasons
        change(0, 4, 0, 1) = 1; lay() = -11; drop() = 0; lay() = NOT; undo() = NOT; out(0) = BAD; go(0) = BAD; lose(0) = -11
        get(0, 8, 0) = !11; fault(0) = 24; fault(2) = 1
        # 39 fault: the next one takes its place
        change(0, 4, 0, 1) = 1; lay() = -11; row(0, 4, 1) = 1; change(0, 4, 1, 1) = 2; lay() = -15; fault(0) = 24; fault(1) = 1
        fault(2) = 5
        # 39 fault: set by lay(), redo(), again() and go()
        row(0, 4, 1) = 1; change(0, 4, 0, 1) = 1; lay() = 0; keep() = 0; undo() = 0; row(0, 3, 1) = 1; redo() = -14; fault(2) = 4
        row(0, 8, 1) = 1; again(0) = -13; fault(2) = 3; row(0, 14, 1) = 0; go(0) = -12; fault(2) = 2; change(0, 4, 0, 1) = 1
        lose(0) = 14; lay() = -11; fault(2) = 1; fault(0) = 24
        # 39 fault: set by out()
        row(0, 12, 1) = 1; row(1, 4, 1) = 1; change(0, 12, 0, 1) = 1; lay() = 0; move(0, 0, 8, 1, 0) = 1; lay() = 1; out(0) = -14
        fault(0) = 1; fault(1) = 0; fault(2) = 4
        # 39 fault: set by lift()
        row(0, 12, 1) = 1; row(1, 4, 1) = 1; change(0, 12, 0, 1) = 1; lay() = 0; move(0, 0, 8, 1, 0) = 1; lay() = 1; lift(0) = -14
        fault(0) = 1; fault(1) = 0; fault(2) = 4
        # 39 fault: set by swap()
        row(0, 12, 1) = 1; row(1, 4, 1) = 1; change(0, 12, 0, 1) = 1; lay() = 0; move(0, 0, 8, 1, 0) = 1; lay() = 1; swap(0) = -14
        fault(0) = 1; fault(1) = 0; fault(2) = 4
        """;

    private static final String MET = """
        # 40 met: row is -1
        met(-1, 0) = BAD
        # 40 met: row is 18
        met(18, 0) = BAD
        # 40 met: row is the least and the greatest int
        met(MIN, 0) = BAD; met(MAX, 0) = BAD
        # 40 met: row is 0 and 17
        row(0, 0, 1) = 1; row(1, 8, 1) = 1; get(0, 0, 0) = 0; change(1, 16, 0, 0) = 1; lay() = 0; met(0, 0) = 1; met(17, 0) = 1
        # 40 met: answer is -1
        met(0, -1) = BAD; met(17, -1) = BAD
        # 40 met: answer is 6
        met(0, 6) = BAD; met(17, 6) = BAD
        # 40 met: answer is the least and the greatest int
        met(0, MIN) = BAD; met(0, MAX) = BAD
        # 40 met: answer is 0 and 5
        row(0, 4, 1) = 1; get(0, 4, 0) = 0; get(0, 4, 1) = !15; met(4, 0) = 1; met(4, 5) = 1; met(4, 1) = 0; met(4, 4) = 0
        # 40 met: a get() of null counts as none of the findings
        row(0, 12, 1) = 1; get(0, 8, 0) = !16; met(8, 0) = 1; met(8, 5) = 0
        # 40 met: a get() that answers BAD is not counted
        row(0, 4, 1) = 1; get(6, 4, 0) = !2; get(-1, 4, 0) = !2; get(0, 9, 0) = !2; get(0, -1, 0) = !2; met(4, 0) = 0; met(0, 0) = 0
        met(8, 0) = 0
        # 40 met: the changes of a lay() that is carried out
        row(0, 4, 2) = 2; change(0, 4, 0, 1) = 1; change(0, 3, 0, 1) = 2; move(0, 0, 5, 0, 0) = 3; drop() = 2
        move(0, 0, 4, 0, 1) = 3; lay() = 0; met(13, 0) = 2; met(12, 0) = 1; met(4, 0) = 1
        # 40 met: the changes of a lay() that is refused, up to the one with the finding
        row(0, 4, 1) = 1; change(0, 4, 0, 1) = 1; change(0, 4, 1, 1) = 2; change(0, 5, 0, 1) = 3; lay() = -15; met(13, 0) = 1
        met(13, 5) = 1; met(14, 4) = 0; met(14, 0) = 0
        # 40 met: they are counted again when lay() tries them again
        row(0, 4, 1) = 1; change(0, 4, 0, 1) = 1; change(0, 4, 1, 1) = 2; lay() = -15; lay() = -15; met(13, 0) = 2; met(13, 5) = 2
        drop() = 1; lay() = 0; met(13, 0) = 3
        # 40 met: a copy counts for reading and for writing
        row(0, 4, 1) = 1; row(1, 5, 1) = 1; move(0, 0, 5, 1, 0) = 1; lay() = 0; met(5, 0) = 1; met(14, 0) = 1; met(4, 0) = 0
        # 40 met: a copy by way 8 counts for writing objects
        row(0, 4, 1) = 1; row(1, 5, 1) = 1; move(0, 0, 8, 1, 0) = 1; lay() = 0; met(8, 0) = 1; met(17, 0) = 1; met(14, 0) = 0
        # 40 met: a copy by way 8 of null counts for writing objects
        row(0, 12, 1) = 1; row(1, 8, 1) = 1; move(0, 0, 8, 1, 0) = 1; lay() = 0; met(8, 0) = 1; met(17, 0) = 1
        # 40 met: a copy of a Mark and of a Seal counts, though they were written by ways 20 and 21
        row(0, 9, 4) = 4; change(0, 20, 0, 1) = 1; change(0, 21, 1, 1) = 2; lay() = 0; met(17, 0) = 0; move(0, 0, 8, 0, 2) = 1
        move(0, 1, 8, 0, 3) = 2; lay() = 1; met(17, 0) = 2; met(8, 0) = 2
        # 40 met: a copy with a finding of reading does not count for writing
        row(0, 4, 1) = 1; move(0, 1, 4, 0, 0) = 1; lay() = -15; met(4, 5) = 1; met(13, 5) = 0; met(13, 0) = 0; met(8, 0) = 0
        met(8, 5) = 0; met(17, 0) = 0; met(17, 5) = 0
        # 40 met: a copy with a finding of reading, behind a write
        row(0, 4, 1) = 1; change(0, 4, 0, 1) = 1; move(0, 1, 4, 0, 0) = 2; lay() = -15; met(13, 0) = 1; met(13, 5) = 0; met(4, 5) = 1
        # 40 met: a write behind a copy does not count for reading
        row(0, 4, 1) = 1; move(0, 0, 4, 0, 0) = 1; change(0, 4, 0, 1) = 2; change(0, 3, 0, 1) = 3; lay() = 0; met(4, 0) = 1
        met(13, 0) = 2; met(12, 0) = 1
        # 40 met: a copy with a finding of writing
        row(0, 4, 1) = 1; move(0, 0, 4, 0, 1) = 1; lay() = -15; met(4, 0) = 1; met(4, 5) = 0; met(13, 5) = 1
        # 40 met: a lay() that answers NOT or FULL tries nothing
        lay() = NOT; met(13, 0) = 0; row(0, 4, 1) = 1
        times 24: change(0, 4, 0, 1); lay()
        met(13, 0) = 24; change(0, 4, 0, 1) = 1; lay() = FULL; met(13, 0) = 24
        # 40 met: ways 20 and 21 are not counted, whatever they find
        row(0, 9, 1) = 1; row(1, 8, 1) = 1; change(0, 20, 0, 1) = 1; change(0, 21, 0, 1) = 2; lay() = 0; change(1, 20, 0, 1) = 1
        lay() = -14; drop() = 0; change(1, 21, 0, 1) = 1; lay() = -14; drop() = 0; change(0, 20, 1, 1) = 1; lay() = -15; drop() = 0
        change(5, 21, 1, 1) = 1; lay() = -11; met(17, 0) = 0; met(17, 4) = 0; met(17, 5) = 0; met(17, 1) = 0; met(16, 0) = 0
        # 40 met: preview() is not counted
        row(0, 4, 1) = 1; change(0, 4, 0, 1) = 1; change(0, 4, 1, 1) = 2; preview(0) = 0; preview(1) = 5; met(13, 0) = 0; met(13, 5) = 0
        # 40 met: patches that are applied again or elsewhere are not counted
        row(0, 4, 2) = 2; change(0, 4, 0, 1) = 1; lay() = 0; change(0, 4, 1, 1) = 1; lay() = 1; met(13, 0) = 2; undo() = 1; redo() = 1
        swap(0) = 0; lift(0) = 0; out(0) = 0; again(0) = 2; keep() = 0; go(0) = 2; without(0, 0, 0) = 0; between(0, 0) = 0
        prune() = 0; settle() = 2; met(13, 0) = 2
        # 40 met: what(), bits() and digest() are not counted
        row(0, 6, 1) = 1; what(0, 0) = 6; bits(0, 0) = 0; bits(0, 1) = !15; changed(0) = 0; met(8, 0) = 0; met(6, 0) = 0; met(8, 5) = 0
        # 40 met: every finding of writing
        row(0, 14, 0) = 0; row(1, 8, 1) = 1; row(2, 3, 1) = 1; row(3, 4, 1) = 1; change(5, 4, 0, 1) = 1; lay() = -11; drop() = 0
        change(0, 4, 0, 1) = 1; lay() = -12; drop() = 0; change(1, 4, 0, 1) = 1; lay() = -13; drop() = 0; change(2, 4, 0, 1) = 1
        lay() = -14; drop() = 0; change(3, 4, 1, 1) = 1; lay() = -15; met(13, 0) = 0; met(13, 1) = 1; met(13, 2) = 1
        met(13, 3) = 1; met(13, 4) = 1; met(13, 5) = 1
        """;

    private static final String COUNT = """
        # 41 count: what is -1
        count(-1) = BAD
        # 41 count: what is 9
        count(9) = BAD
        # 41 count: what is the least and the greatest int
        count(MIN) = BAD; count(MAX) = BAD
        # 41 count: 0, patches, up to 24, also removed ones
        count(0) = 0; row(0, 4, 1) = 1
        times 24: change(0, 4, 0, 1); lay()
        count(0) = 24; undo() = 23; out(0) = 0; count(0) = 24; settle() = 22; count(0) = 0
        # 41 count: 1, applied patches, up to 24
        count(1) = 0; row(0, 4, 1) = 1
        times 24: change(0, 4, 0, 1); lay()
        count(1) = 24; undo() = 23; out(0) = 0; count(1) = 22; again(0) = 23; count(1) = 23
        # 41 count: 2, changes of the draft, up to 6
        count(2) = 0
        times 6: change(0, 4, 0, 1)
        count(2) = 6; drop() = 5; count(2) = 5; row(0, 4, 1) = 1; lay() = 0; count(2) = 0
        # 41 count: 3, undone patches, up to 24, and not those that out() removed
        count(3) = 0; row(0, 4, 1) = 1
        times 24: change(0, 4, 0, 1); lay()
        out(5) = 0; count(3) = 0; again(5) = 24
        times 24: undo()
        count(3) = 24; redo() = 0; count(3) = 23
        # 41 count: 4, versions, up to 6
        count(4) = 0
        times 6: keep()
        count(4) = 6; keep() = FULL; count(4) = 6; settle() = 0; count(4) = 0
        # 41 count: 5, elements that are not equal to their bases
        count(5) = 0; row(0, 4, 2) = 2; row(5, 12, 2) = 2; row(1, 14, 0) = 0; change(0, 4, 0, 1) = 1; change(0, 4, 1, 0) = 2
        change(5, 16, 1, 0) = 3; change(5, 19, 0, 0) = 4; lay() = 0; count(5) = 2; settle() = 1; count(5) = 0
        # 41 count: 6, changes of all applied patches, and not of removed ones or the draft
        count(6) = 0; row(0, 4, 1) = 1; change(0, 4, 0, 1) = 1; change(0, 4, 0, 2) = 2; lay() = 0; change(0, 4, 0, 3) = 1; lay() = 1
        change(0, 4, 0, 4) = 1; count(6) = 3; undo() = 1; count(6) = 2; prune() = 1; count(6) = 1; undo() = 0; count(6) = 0
        # 41 count: 7, dead changes, and not of removed patches
        count(7) = 0; row(0, 4, 1) = 1; change(0, 4, 0, 1) = 1; change(0, 4, 0, 2) = 2; lay() = 0; count(7) = 1
        change(0, 4, 0, 3) = 1; lay() = 1; count(7) = 2; undo() = 1; count(7) = 1; undo() = 0; count(7) = 0; redo() = 0; prune() = 1
        count(7) = 0
        # 41 count: 8, NONE if no patch is applied
        count(8) = NONE; row(0, 4, 1) = 1; change(0, 4, 0, 1) = 1; lay() = 0; count(8) = 0; undo() = 0; count(8) = NONE
        # 41 count: 8, the patch on top
        row(0, 4, 1) = 1; change(0, 4, 0, 1) = 1; lay() = 0; change(0, 4, 0, 1) = 1; lay() = 1; count(8) = 1; lift(0) = 0
        count(8) = 0; out(0) = 0; count(8) = 1; settle() = 1; count(8) = NONE
        # 41 count: 8, patch 23
        row(0, 4, 1) = 1
        times 24: change(0, 4, 0, 1); lay()
        count(8) = 23; undo() = 23; count(8) = 22
        """;

    /** Each way in a row of its own, the ways 8 to 19 together. */
    private static void everyWayMet() {
        for (int way = 0; way <= 8; way++) {
            Cases.noteName("40 met: reading way " + way);
            PatchDesk desk = new PatchDesk();
            desk.get(0, way, 0);
            dueRow(desk, "40 met, reading way " + way, way);
        }
        for (int way = 0; way <= 21; way++) {
            Cases.noteName("40 met: writing way " + way);
            PatchDesk desk = new PatchDesk();
            desk.change(0, way, 0, 0);
            desk.lay();
            dueRow(desk, "40 met, writing way " + way, way > 19 ? PatchDesk.NONE : Math.min(9 + way, 17));
        }
    }

    private static void dueRow(PatchDesk desk, String name, int counted) {
        for (int row = 0; row <= 17; row++) {
            Calls.due(name, "met(" + row + ", 1)", desk.met(row, 1), row == counted ? 1 : 0);
        }
    }

    private static void digests() {
        Cases.noteName("42 digest: of a new object, value by value");
        long h = 17;
        for (int value : new int[] {0, 0, 0, 0, 0, 0, 0, 0, -1, -11, -11, -11, -11, -11, -11, -11, -11, -11, -11, -11, -11,
            -11, -11, -11, -11, -11, -11, 0, -1, -1, -1}) {
            h = 31 * h + value;
        }
        for (int n = 0; n < 108; n++) {
            h = 31 * h;
        }
        Calls.due("42 digest", "digest()", new PatchDesk().digest(), h);
        digest("of single things and empty slots", "row(0, 13, 0) = 0; row(5, 14, 0) = 0");
        digest("of an array without elements", "row(0, 4, 0) = 0; row(5, 12, 0) = 0");
        digest("of 72 elements", "row(0, 0, 12) = 12; row(1, 5, 12) = 12; row(2, 6, 12) = 12; row(3, 7, 12) = 12\n"
            + "row(4, 12, 12) = 12; row(5, 8, 12) = 12");
        digest("of null, an error as a value", "row(0, 12, 1) = 1");
        digest("of every type of element", """
            row(0, 12, 6) = 6; row(1, 12, 6) = 6; row(2, 9, 2) = 2; change(0, 8, 0, 1) = 1; change(0, 9, 1, -1) = 2
            change(0, 10, 2, -1) = 3; change(0, 11, 3, -1) = 4; change(0, 12, 4, MIN) = 5; change(0, 13, 5, MIN) = 6; lay() = 0
            change(1, 14, 0, MAX) = 1; change(1, 15, 1, MAX) = 2; change(1, 16, 2, 77) = 3; change(2, 17, 0, -5) = 4
            change(2, 18, 1, -5) = 5; lay() = 1
            """);
        digest("of patches that are applied, removed, undone and pruned, with dependents and dead changes", """
            row(0, 4, 4) = 4; change(0, 4, 0, 5) = 1; lay() = 0; move(0, 0, 4, 0, 1) = 1; change(0, 4, 2, 3) = 2; lay() = 1
            move(0, 1, 4, 0, 2) = 1; lay() = 2; change(0, 4, 3, 1) = 1; lay() = 3; change(0, 4, 3, 2) = 1; lay() = 4; prune() = 2
            change(0, 4, 0, 6) = 1; change(0, 4, 0, 7) = 2; lay() = 5; change(0, 4, 0, 8) = 1; lay() = 6; out(3) = 0; undo() = 6
            """);
        digest("of patches without changes", """
            row(0, 4, 1) = 1; change(0, 4, 0, 5) = 1; lay() = 0; change(0, 4, 0, 6) = 1; lay() = 1; prune() = 1
            """);
        digest("of a draft with every finding", """
            row(0, 4, 1) = 1; row(1, 14, 0) = 0; row(2, 12, 1) = 1; change(0, 4, 0, 1) = 1; change(3, 4, 0, 1) = 2
            change(1, 4, 0, 1) = 3; change(2, 4, 0, 1) = 4; change(0, 5, 0, 1) = 5; change(0, 4, 1, 1) = 6
            """);
        digest("of a text without a flaw, which is NONE as a value", "type 0a0=1");
        digest("of a text with a flaw", "type 0a0=1;x");
        digest("of a fault", "row(0, 4, 1) = 1; change(0, 4, 0, 1) = 1; change(0, 4, 1, 1) = 2; lay() = -15");
        digest("of counts of met()", "row(0, 4, 1) = 1; get(0, 0, 0) = !14; get(0, 8, 0) = 0; get(0, 8, 1) = !15\n"
            + "change(0, 15, 0, 1) = 1; lay() = -14; drop() = 0; change(0, 4, 0, 1) = 1; lay() = 0");
        digest("of versions", "keep() = 0; keep() = 1");
        digest("of 24 patches of six changes", """
            row(0, 4, 1) = 1
            times 24: change(0, 4, 0, 1); change(0, 4, 0, 1); change(0, 4, 0, 1); change(0, 4, 0, 1); change(0, 4, 0, 1); move(0, 0, 4, 0, 0); lay()
            """);
        Cases.run(DIGEST);
    }

    private static final String DIGEST = """
        # 42 digest: it does not count in met() and changes nothing
        row(0, 4, 2) = 2; row(1, 12, 1) = 1; change(0, 4, 0, 1) = 1
        times 3: digest()
        met(8, 0) = 0; met(13, 0) = 0; preview(0) = 0; fault(0) = NONE; lay() = 0; undo() = 0
        times 3: digest()
        count(3) = 1; redo() = 0
        # 42 digest: example 5 of the document
        row(0, 14, 99) = 0; get(0, 8, 0) = !12; digest() = -6800824255517168877
        """;

    private static void digest(String words, String calls) {
        String name = "42 digest: " + words;
        Cases.noteName(name);
        PatchDesk desk = Cases.deskAfter(calls);
        long digest = desk.digest();
        Calls.due(name, "again", desk.digest(), digest);
        Calls.due(name, "from all that the object tells", digest, hashOf(Cases.deskAfter(calls)));
    }

    /** The met() counts are taken before get() is called, which changes them. */
    private static long hashOf(PatchDesk desk) {
        long tail = 31 * (31 * (31 * (long) desk.flaw() + desk.fault(0)) + desk.fault(1)) + desk.fault(2);
        long power = 31L * 31 * 31 * 31;
        for (int n = 0; n < 108; n++) {
            tail = 31 * tail + desk.met(n / 6, n % 6);
            power *= 31;
        }
        long h = 17;
        for (int what = 0; what <= 8; what++) {
            h = 31 * h + desk.count(what);
        }
        for (int s = 0; s <= 5; s++) {
            h = 31 * (31 * (31 * h + desk.kind(s)) + desk.size(s)) + desk.changed(s);
            for (int i = 0; i < desk.size(s); i++) {
                h = 31 * (31 * h + desk.what(s, i)) + desk.get(s, 8, i);
                h = 31 * (31 * h + desk.blame(s, i)) + desk.since(s, i);
            }
        }
        for (int n = 0; n < desk.count(1); n++) {
            int p = desk.order(n);
            h = 31 * (31 * (31 * (31 * h + p) + desk.hangs(p)) + desk.dead(p)) + desk.text(p, PatchDesk.NONE);
            for (int k = 0; desk.trace(p, k, 0) != Long.MIN_VALUE + 2; k++) {
                h = 31 * (31 * h + desk.trace(p, k, 0)) + desk.trace(p, k, 1);
            }
        }
        for (int k = 0; k < desk.count(2); k++) {
            h = 31 * h + desk.preview(k);
        }
        return h * power + tail;
    }
}
