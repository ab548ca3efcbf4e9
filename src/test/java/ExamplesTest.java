/** The five examples of the document, to the letter. */
public final class ExamplesTest {
    private static final String[] EXAMPLES = {
        "row(0, 4, 3) = 3; row(1, 6, 2) = 2; change(0, 4, 1, 9) = 1; move(0, 1, 6, 1, 0) = 2; lay() = 0; "
            + "get(1, 8, 0) = 72; what(1, 0) = 6; change(0, 0, 2, 1) = 1; preview(0) = 4; lay() = -14; "
            + "fault(0) = 24; fault(2) = 4; drop() = 0; change(0, 4, 1, 8) = 1; lay() = 1; out(0) = 0",
        "row(0, 12, 2) = 2; change(0, 13, 0, 3) = 1; change(0, 17, 1, 5) = 2; lay() = -14; drop() = 1; "
            + "lay() = 0; get(0, 8, 0) = 300000021; get(0, 4, 0) = -9223372036854775795; "
            + "get(0, 8, 1) = -9223372036854775792; what(0, 1) = 11; bits(0, 0) = -9223372036854775805; "
            + "size(5) = -11; row(0, 4, 1) = -3; undo() = 0; redo() = 0; met(17, 4) = 1",
        "row(2, 1, 1) = 1; type(50) = 1; type(98) = 2; type(48) = 3; type(61) = 4; type(55) = 5; flaw() = -1; "
            + "read() = 1; text(24, -1) = 5; lay() = 0; change(2, 1, 0, 7) = 1; lay() = 1; dead(0) = 1; "
            + "prune() = 1; text(0, -1) = 0; since(2, 0) = 2",
        "row(0, 5, 2) = 2; change(0, 5, 0, 2) = 1; lay() = 0; move(0, 0, 5, 0, 1) = 1; lay() = 1; hangs(0) = 2; "
            + "keep() = 0; with(0) = 2; keep() = 1; between(0, 1) = 2; go(0) = 2; swap(0) = 1; trace(1, 0, 0) = 0; "
            + "without(0, 0, 1) = 0; settle() = 2; count(5) = 0",
        "row(0, 14, 99) = 0; size(0) = -12; kind(0) = 14; get(0, 8, 0) = -9223372036854775796; "
            + "row(1, 8, -1) = -17; row(1, 8, 13) = -2; lose(1) = -11; undo() = -3; lay() = -3; flaw() = 0; "
            + "read() = -3; text(0, 0) = -2; go(0) = -2; swap(0) = -2; met(8, 2) = 1; "
            + "digest() = -6800824255517168877",
    };

    public static void main(String[] args) {
        for (int n = 0; n < EXAMPLES.length; n++) {
            Calls.run("example " + (n + 1), EXAMPLES[n]);
        }
        Calls.finish("ExamplesTest");
    }
}
