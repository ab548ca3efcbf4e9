/** For each promise of the document runs of calls with the answers that its words ask for. */
public final class PromiseTest {
    public static void main(String[] args) {
        promise1();
        promise2();
        promises3To5();
        promise6();
        promises7And8();
        promise9();
        promises10To12();
        promise13();
        promises14To16();
        promises17And18();
        promise19();
        promises20And21();
        promise22();
        promise23();
        promises24And25();
        promises26And27();
        promise28();
        promise29();
        promises30And31();
        promises32To34();
        promise35();
        promises36And37();
        promise38();
        promise39();
        promise40();
        promise41();
        promise42();
        Calls.finish("PromiseTest");
    }

    private static void promise1() {
        Calls.run("1 a new object", """
            kind(0) = -11; kind(1) = -11; kind(2) = -11; kind(3) = -11; kind(4) = -11; kind(5) = -11
            count(0) = 0; count(1) = 0; count(2) = 0; count(3) = 0; count(4) = 0; count(5) = 0; count(6) = 0
            count(7) = 0; count(8) = NONE; fault(0) = NONE; fault(1) = NONE; fault(2) = NONE
            text(24, NONE) = 0; wipe() = 0; flaw() = 0; order(0) = BAD; go(0) = BAD; redo() = NOT; settle() = 0
            """);
        PatchDesk desk = new PatchDesk();
        for (int row = 0; row <= 17; row++) {
            for (int answer = 0; answer <= 5; answer++) {
                Calls.due("1 a new object", "met(" + row + ", " + answer + ")", desk.met(row, answer), 0);
            }
        }
    }

    private static void promise2() {
        Calls.run("2 row", """
            row(0, 0, 12) = 12; size(0) = 12; row(5, 12, 0) = 0; size(5) = 0; kind(5) = 12
            row(0, 13, 99) = 0; kind(0) = 13; row(0, 14, MIN) = 0; kind(0) = 14; size(0) = -12
            row(-1, 4, 1) = BAD; row(6, 4, 1) = BAD; row(0, -1, 1) = BAD; row(0, 15, 1) = BAD
            row(0, 4, 13) = BAD; row(0, 4, MAX) = BAD; row(6, 4, -1) = BAD; row(0, 4, -1) = -17
            row(0, 12, MIN) = -17; kind(0) = 14; fault(2) = NONE
            """);
        Calls.run("2 row: the last slot, filled", """
            row(5, 4, 12) = 12; row(5, 12, 12) = 12; what(5, 11) = 11; what(5, 12) = -15; changed(5) = 0; count(5) = 0
            change(5, 16, 11, 3) = 1; lay() = 0; changed(5) = 1; count(5) = 1; keep() = 0; between(0, 0) = 0; lose(5) = NOT
            """);
        Calls.run("2 row: an applied patch keeps the slots that it writes and reads", """
            row(0, 4, 2) = 2; row(1, 4, 2) = 2; row(2, 4, 2) = 2; change(2, 4, 0, 1) = 1
            row(2, 4, 2) = 2; drop() = 0; change(0, 4, 0, 1) = 1; move(1, 0, 4, 0, 1) = 2; lay() = 0
            row(0, 4, 2) = NOT; row(1, 4, -1) = NOT; row(1, 13, 0) = NOT; row(1, 4, 13) = BAD
            row(2, 5, 3) = 3; undo() = 0; row(0, 5, 1) = 1; row(1, 4, 2) = 2; redo() = -15; count(3) = 1
            """);
        Calls.run("2 row: what new elements are, and that they are their base", """
            row(0, 0, 1) = 1; row(1, 2, 1) = 1; row(2, 6, 1) = 1; row(3, 7, 1) = 1; row(4, 8, 1) = 1; row(5, 11, 1) = 1
            what(0, 0) = 0; what(1, 0) = 2; what(2, 0) = 6; what(3, 0) = 7; what(4, 0) = 11; what(5, 0) = 11
            get(0, 8, 0) = 0; get(3, 8, 0) = 0; get(4, 8, 0) = !16; count(5) = 0
            change(0, 0, 0, 1) = 1; lay() = 0; settle() = 1; get(0, 0, 0) = 1; changed(0) = 0
            row(0, 0, 1) = 1; get(0, 0, 0) = 0; changed(0) = 0; row(4, 4, 2) = 2; what(4, 1) = 4; changed(4) = 0
            """);
    }

    private static void promises3To5() {
        Calls.run("3 lose", """
            lose(0) = -11; lose(-1) = BAD; lose(6) = BAD; row(0, 12, 2) = 2; lose(0) = 12; kind(0) = -11
            row(0, 14, 0) = 0; lose(0) = 14; row(0, 0, 1) = 1; row(1, 0, 1) = 1; row(2, 0, 1) = 1; lose(2) = 0
            move(1, 0, 0, 0, 0) = 1; lose(1) = 0; row(1, 0, 1) = 1; lay() = 0; lose(0) = NOT; lose(1) = NOT
            undo() = 0; lose(1) = 0; redo() = -11
            """);
        Calls.run("4 kind", """
            row(0, 0, 1) = 1; row(1, 8, 1) = 1; row(2, 13, 1) = 0; row(3, 14, 1) = 0
            kind(0) = 0; kind(1) = 8; kind(2) = 13; kind(3) = 14; kind(4) = -11; kind(6) = BAD; kind(-1) = BAD
            row(0, 7, 1) = 1; kind(0) = 7
            """);
        Calls.run("5 size", """
            size(0) = -11; size(-1) = BAD; size(6) = BAD; row(0, 3, 0) = 0; size(0) = 0; row(0, 12, 12) = 12
            size(0) = 12; row(0, 13, 5) = 0; size(0) = -12
            """);
    }

    private static void promise6() {
        Calls.run("6 get: errors", """
            get(-1, 8, 0) = !2; get(6, 8, 0) = !2; get(0, -1, 0) = !2; get(0, 9, 0) = !2; get(0, 8, 0) = !11
            row(0, 14, 0) = 0; get(0, 8, 0) = !12; get(0, 3, 0) = !12; row(0, 12, 2) = 2
            get(0, 7, 9) = !13; get(0, 8, 2) = !15; get(0, 8, -1) = !15; get(0, 8, 1) = !16
            row(0, 4, 2) = 2; get(0, 3, 9) = !14; get(0, 4, 2) = !15; get(0, 4, MIN) = !15; get(0, 4, MAX) = !15
            """);
        Calls.run("6 get: numbers", """
            row(0, 0, 3) = 3; row(1, 1, 2) = 2; row(2, 2, 2) = 2; row(3, 3, 2) = 2; row(4, 4, 2) = 2; row(5, 5, 2) = 2
            change(0, 0, 0, -3) = 1; change(0, 0, 1, 4) = 2; change(1, 1, 0, 200) = 3; change(2, 2, 0, -1) = 4
            change(3, 3, 0, 40000) = 5; change(5, 5, 0, -2) = 6; lay() = 0
            get(0, 0, 0) = 1; get(0, 0, 1) = 0; get(1, 1, 0) = -56; get(1, 6, 0) = -448; get(2, 2, 0) = 65535
            get(2, 7, 0) = 524280; get(3, 3, 0) = -25536; get(3, 4, 0) = -25536; get(5, 5, 0) = -200000014
            change(5, 5, 0, MIN) = 1; change(4, 4, 0, MAX) = 2; lay() = 1
            get(5, 5, 0) = -214748379832385536; get(5, 6, 0) = -1717987055838953472; get(5, 7, 0) = -1717987038659084288
            get(4, 4, 0) = 2147483647; get(4, 5, 0) = 2147483647; get(4, 6, 0) = 17179869184
            get(4, 7, 0) = 17179869176; get(4, 8, 0) = 2147483647
            """);
        Calls.run("6 get: floats, and numbers of objects", """
            row(0, 6, 2) = 2; row(1, 7, 2) = 2; row(2, 8, 2) = 2; row(3, 9, 2) = 2; row(4, 12, 4) = 4
            change(0, 6, 0, 16777217) = 1; change(1, 7, 0, 16777217) = 2; change(2, 16, 0, -1) = 3
            change(3, 17, 0, -9) = 4; change(4, 16, 0, 77) = 5; change(4, 16, 1, 78) = 6; lay() = 0
            get(0, 6, 0) = 16777216; get(0, 7, 0) = 16777216; get(1, 7, 0) = 16777217; get(2, 8, 0) = 49
            get(3, 8, 0) = -9; get(4, 8, 0) = 77; get(4, 8, 1) = 0
            change(4, 8, 0, 7) = 1; change(4, 10, 1, -1) = 2; change(4, 14, 2, 33554435) = 3; change(4, 15, 3, 5) = 4
            lay() = 1; get(4, 8, 0) = 1; get(4, 8, 1) = 65535; get(4, 8, 2) = 33554436; get(4, 8, 3) = 5
            """);
        readingWays();
    }

    /** A row a kind, a column a reading way: which of them find that the array is another one. */
    private static void readingWays() {
        String[] fits = {"100000001", "010111111", "001011111", "000111111", "000011111", "000001111", "000000111",
            "000000011"};
        for (int kind = 0; kind <= 7; kind++) {
            PatchDesk desk = new PatchDesk();
            desk.row(0, kind, 1);
            for (int way = 0; way <= 8; way++) {
                long want = fits[kind].charAt(way) == '1' ? 0 : Long.MIN_VALUE + 14;
                Calls.due("6 get", "get(0, " + way + ", 0) of kind " + kind, desk.get(0, way, 0), want);
            }
        }
    }

    private static void promises7And8() {
        Calls.run("7 what", """
            what(-1, 0) = BAD; what(6, 0) = BAD; what(0, 0) = -11; row(0, 13, 0) = 0; what(0, 0) = -12
            row(0, 9, 3) = 3; what(0, 3) = -15; what(0, -1) = -15; what(0, 0) = 11
            change(0, 17, 0, 1) = 1; change(0, 18, 1, 1) = 2; row(1, 12, 6) = 6; change(1, 8, 0, 1) = 3
            change(1, 13, 1, 1) = 4; change(1, 15, 2, 1) = 5; change(1, 16, 3, 1) = 6; lay() = 0
            what(0, 0) = 9; what(0, 1) = 10; what(0, 2) = 11; what(1, 0) = 0; what(1, 1) = 5; what(1, 2) = 7
            what(1, 3) = 8; what(1, 4) = 11; row(2, 11, 1) = 1; row(3, 5, 1) = 1; change(2, 12, 0, 1) = 1
            change(3, 9, 0, 1) = 2; lay() = 1; what(2, 0) = 4; what(3, 0) = 5
            """);
        Calls.run("8 bits", """
            bits(-1, 0) = !2; bits(6, 0) = !2; bits(0, 0) = !11; row(0, 14, 0) = 0; bits(0, 0) = !12
            row(0, 6, 7) = 7; row(1, 7, 6) = 6; row(2, 12, 4) = 4; bits(0, 7) = !15; bits(0, -1) = !15; bits(2, 0) = !3
            bits(0, 0) = 0; bits(1, 0) = 0
            change(0, 6, 0, 8) = 1; change(0, 6, 1, -8) = 2; change(0, 6, 2, 1) = 3; change(0, 6, 3, MAX) = 4
            change(0, 6, 4, MIN) = 5; change(0, 6, 5, -16777217) = 6; lay() = 0
            bits(0, 0) = 1065353216; bits(0, 1) = -1082130432; bits(0, 2) = 1040187392; bits(0, 3) = 1300234240
            bits(0, 4) = -847249408; bits(0, 5) = -905969664; bits(0, 6) = 0
            change(1, 7, 0, 8) = 1; change(1, 7, 1, -8) = 2; change(1, 7, 2, 3) = 3; change(1, 5, 3, MIN) = 4
            change(2, 14, 0, 12) = 5; change(2, 15, 1, -12) = 6; lay() = 1
            bits(1, 0) = 4607182418800017408; bits(1, 1) = -4616189618054758400; bits(1, 2) = 4600427019358961664
            bits(2, 0) = 1069547520; bits(2, 1) = -4613937818241073152; bits(2, 2) = !3
            change(2, 13, 2, 1) = 1; lay() = 2; bits(2, 2) = !3
            """);
        bitsOfManyNumbers();
    }

    private static void bitsOfManyNumbers() {
        int[] numbers = {1, 2, 3, 5, 7, 9, 255, 4097, 16777215, 16777217, 33554431, 1073741825, -1, -77, -2147483647};
        for (int v : numbers) {
            PatchDesk desk = new PatchDesk();
            desk.row(0, 6, 2);
            desk.row(1, 7, 2);
            for (int s = 0; s <= 1; s++) {
                desk.change(s, 6 + s, 0, v);
                desk.change(s, 5, 1, v);
            }
            desk.lay();
            Calls.due("8 bits", "float " + v, desk.bits(0, 0), Float.floatToIntBits((float) v / 8));
            Calls.due("8 bits", "long as float " + v, desk.bits(0, 1), Float.floatToIntBits(v * 100000007L));
            Calls.due("8 bits", "double " + v, desk.bits(1, 0), Double.doubleToLongBits((double) v / 8));
            Calls.due("8 bits", "long as double " + v, desk.bits(1, 1), Double.doubleToLongBits(v * 100000007L));
        }
    }

    private static void promise9() {
        Calls.run("9 changed", """
            changed(-1) = BAD; changed(6) = BAD; changed(0) = -11; row(0, 14, 0) = 0; changed(0) = -12
            row(0, 4, 4) = 4; changed(0) = 0; change(0, 4, 0, 5) = 1; change(0, 4, 1, 0) = 2; change(0, 4, 3, 1) = 3
            lay() = 0; changed(0) = 2; change(0, 4, 0, 0) = 1; lay() = 1; changed(0) = 1; undo() = 1; changed(0) = 2
            settle() = 1; changed(0) = 0; change(0, 4, 0, 0) = 1; lay() = 0; changed(0) = 1
            """);
        Calls.run("9 changed: the same number with another type is not equal, null is null", """
            row(0, 12, 3) = 3; change(0, 12, 0, 5) = 1; change(0, 12, 1, 5) = 2; lay() = 0; settle() = 1
            change(0, 9, 0, 5) = 1; change(0, 12, 1, 5) = 2; change(0, 19, 2, 5) = 3; lay() = 0; changed(0) = 1
            row(1, 9, 1) = 1; change(1, 17, 0, 4) = 1; lay() = 1; changed(1) = 1; settle() = 2
            change(1, 18, 0, 4) = 1; lay() = 0; changed(1) = 1; change(1, 17, 0, 4) = 1; lay() = 1; changed(1) = 0
            """);
    }

    private static void promises10To12() {
        Calls.run("10 change", """
            change(-1, 0, 0, 0) = BAD; change(6, 0, 0, 0) = BAD; change(0, -1, 0, 0) = BAD; change(0, 22, 0, 0) = BAD
            change(0, 21, MIN, MAX) = 1; change(5, 0, MAX, MIN) = 2; change(0, 0, 0, 0) = 3; change(0, 0, 0, 0) = 4
            change(0, 0, 0, 0) = 5; change(0, 0, 0, 0) = 6; change(0, 0, 0, 0) = FULL; change(6, 0, 0, 0) = BAD
            change(0, 22, 0, 0) = BAD; count(2) = 6; text(24, NONE) = 73; text(24, 1) = 118; text(24, 2) = 45
            """);
        Calls.run("11 move", """
            move(-1, 0, 0, 0, 0) = BAD; move(6, 0, 0, 0, 0) = BAD; move(0, 0, -1, 0, 0) = BAD; move(0, 0, 9, 0, 0) = BAD
            move(0, 0, 8, 6, 0) = BAD; move(0, 0, 8, -1, 0) = BAD; move(5, MIN, 8, 5, MAX) = 1; move(0, 0, 0, 0, 0) = 2
            change(0, 0, 0, 0) = 3; move(0, 0, 0, 0, 0) = 4; move(0, 0, 0, 0, 0) = 5; move(0, 0, 0, 0, 0) = 6
            move(0, 0, 0, 0, 0) = FULL; move(0, 0, 9, 0, 0) = BAD; move(6, 0, 0, 0, 0) = BAD; change(0, 0, 0, 0) = FULL
            """);
        Calls.run("11 move: by a way through another type, and as it is", """
            row(0, 5, 2) = 2; row(1, 7, 2) = 2; row(2, 12, 2) = 2; row(3, 4, 2) = 2; row(4, 9, 2) = 2; row(5, 10, 2) = 2
            change(0, 4, 0, 16777217) = 1; move(0, 0, 6, 1, 0) = 2; move(0, 0, 7, 1, 1) = 3; move(0, 0, 8, 2, 0) = 4
            lay() = 0; get(1, 7, 0) = 134217728; get(1, 7, 1) = 134217736; what(1, 0) = 7; what(2, 0) = 5
            move(2, 0, 8, 0, 1) = 1; move(0, 0, 5, 3, 0) = 2; preview(0) = 0; preview(1) = 4; move(2, 0, 5, 0, 1) = 3
            preview(2) = 3; move(2, 1, 8, 0, 1) = 4; preview(3) = 4; move(2, 0, 8, 3, 0) = 5; preview(4) = 4
            drop() = 4; drop() = 3; drop() = 2; drop() = 1; lay() = 1; get(0, 5, 1) = 16777217
            change(4, 17, 0, 1) = 1; change(4, 18, 1, 2) = 2; move(4, 0, 8, 5, 0) = 3; preview(2) = 4
            move(4, 1, 8, 5, 0) = 4; preview(3) = 0; move(4, 0, 8, 2, 0) = 5; preview(4) = 4; move(5, 1, 8, 4, 0) = 6
            preview(5) = 0
            """);
        Calls.run("12 drop", """
            drop() = NOT; change(0, 4, 0, 1) = 1; change(1, 4, 0, 2) = 2; drop() = 1; text(24, 0) = 48; drop() = 0
            drop() = NOT; count(2) = 0
            """);
    }

    private static void promise13() {
        Calls.run("13 preview", """
            preview(0) = BAD; row(0, 12, 2) = 2; row(1, 4, 2) = 2; move(0, 0, 8, 1, 0) = 1; preview(0) = 4
            change(0, 12, 0, 3) = 2; preview(1) = 0; move(0, 0, 8, 1, 0) = 3; preview(2) = 0; preview(0) = 4
            change(0, 13, 9, 3) = 4; preview(3) = 5; change(2, 4, 0, 0) = 5; preview(4) = 1; change(0, 4, 0, 0) = 6
            preview(5) = 3; preview(6) = BAD; preview(-1) = BAD; preview(MIN) = BAD
            what(0, 0) = 11; get(1, 4, 0) = 0; fault(2) = NONE; met(17, 4) = 0; met(8, 0) = 0; count(2) = 6
            """);
        Calls.run("13 preview: a single thing", "row(0, 13, 0) = 0; change(0, 16, 0, 0) = 1; preview(0) = 2");
        writingWays();
    }

    /** A row a kind, a column a writing way: 0 no finding, else the finding. */
    private static void writingWays() {
        String[] findings = {
            "0444444404444444444444", "4044444440444444444444", "4404444444044444444444", "4040444440404444444444",
            "4000044440000444444444", "4000004440000044444444", "4000000440000004444444", "4000000040000000444444",
            "3333333344444444044044", "3333333344444444400000", "3333333344444444440040", "3333333344440444444044",
            "3333333300000000044044"};
        // Ways 20 and 21 stand at the end of each row, as 17 and 18 do before them.
        for (int kind = 0; kind <= 12; kind++) {
            for (int way = 0; way <= 21; way++) {
                PatchDesk desk = new PatchDesk();
                desk.row(0, kind, 1);
                desk.change(0, way, 0, 1);
                Calls.due("13 preview", "way " + way + " into kind " + kind, desk.preview(0),
                    findings[kind].charAt(way) - '0');
            }
        }
    }

    private static void promises14To16() {
        PatchDesk desk = new PatchDesk();
        for (int n = 1; n <= 80; n++) {
            Calls.due("14 type", "type number " + n, desk.type(n == 1 ? 0 : n == 2 ? 255 : 48), n);
        }
        Calls.on(desk, "14 type", "type(0) = FULL; type(255) = FULL; type(-1) = BAD; type(256) = BAD; wipe() = 80");
        Calls.on(desk, "14 type", "type(-1) = BAD; type(256) = BAD; type(MIN) = BAD; type(65) = 1");
        Calls.on(desk, "15 wipe", "wipe() = 1; wipe() = 0; flaw() = 0; type(48) = 1; type(48) = 2; wipe() = 2");
        flaw("", 0);
        flaw("0", 1);
        flaw("6a0=0", 0);
        flaw("/a0=0", 0);
        flaw("5v0=0", -1);
        flaw("5w0=0", 1);
        flaw("5A0=0", 1);
        flaw("5`0=0", 1);
        flaw("5a", 2);
        flaw("5a=", 2);
        flaw("5a-", 3);
        flaw("5a-0=0", 3);
        flaw("5a-1=0", -1);
        flaw("5a--1=0", 3);
        flaw("5a+1=0", 2);
        flaw("5a00=0", 3);
        flaw("5a0=", 4);
        flaw("5a0=00", 5);
        flaw("5a0=-", 5);
        flaw("5a0= 1", 4);
        flaw("5a0=1 ", 5);
        flaw("5a0=2147483647", -1);
        flaw("5a0=2147483648", 13);
        flaw("5a0=-2147483648", -1);
        flaw("5a0=-2147483649", 14);
        flaw("5a2147483648=0", 11);
        flaw("5a9999999999=0", 11);
        flaw("5a0=9999999999", 13);
        flaw("5a1000000000=0", -1);
        flaw("5a10000000000=0", 12);
        flaw("5.", 2);
        flaw("5..", 2);
        flaw("5.a", 2);
        flaw("5.0", 3);
        flaw("5.00", 3);
        flaw("5.0a", 4);
        flaw("5.0i5.0", -1);
        flaw("5.0j5.0", 3);
        flaw("5.0i6.0", 4);
        flaw("5.0i50.0", 5);
        flaw("5.0i5a0", 5);
        flaw("5.0i5.", 6);
        flaw("5.0i5.-3", -1);
        flaw("5.0i5.0=1", 7);
        flaw("5.-2147483648a0.2147483647", -1);
        flaw("5.-2147483649a0.0", 12);
        flaw("0a0=0;", 6);
        flaw(";0a0=0", 0);
        flaw("0a0=0;;", 6);
        flaw("0a0=0;0.0a0.0", -1);
        flaw("0a0=0,0a0=0", 5);
        flaw("0a0=0;0.0a0.0;6", 14);
        flaw("0a0=0;0a0=0;0a0=0;0a0=0;0a0=0;0a0=0;0a0=0", -1);
        flaw("0a0=0;0a0=0;0a0=0;0a0=0;0a0=0;0a0=0;0a0=0;0a0=0;0a0=0;0a0=0;0a0=0;0a0=0;0a0=000", 77);
        flaw("0a0=0;0a0=0;0a0=0;0a0=0;0a0=0;0a0=0;0a0=0;0a0=0;0a0=0;0a0=0;0a0=0;0a0=0;0a0=123;", 80);
    }

    private static void flaw(String text, int want) {
        PatchDesk desk = new PatchDesk();
        Calls.typeAll(desk, text);
        Calls.due("16 flaw", text, desk.flaw(), want);
    }

    private static void promises17And18() {
        Calls.run("17 read", """
            read() = NOT
            type 0a0=7;
            read() = NOT; wipe() = 6; count(2) = 0
            type 3t-5=-2147483648;1.2147483647i4.-1
            read() = 2; wipe() = 0; flaw() = 0; text(24, NONE) = 34; change(0, 0, 0, 0) = 3; change(0, 0, 0, 0) = 4
            type 0a0=7;1.0a0.0;0a0=8
            read() = FULL; flaw() = NONE; count(2) = 4; drop() = 3; read() = 6; wipe() = 0
            type 0a0=1
            read() = FULL; wipe() = 5
            """);
        Calls.run("17 read: seven changes are too many for an empty draft, six are not", """
            type 0a0=0;0a0=0;0a0=0;0a0=0;0a0=0;0a0=0;0a0=0
            read() = FULL; count(2) = 0; wipe() = 41
            type 0a0=0;0a0=0;0a0=0;0a0=0;0a0=0;0a0=0
            read() = 6; count(2) = 6
            """);
        Calls.run("17 read: what is read is what change() and move() append", """
            row(2, 4, 3) = 3; row(3, 5, 3) = 3
            type 2e1=-77;2.1f3.2
            read() = 2; lay() = 0; get(2, 4, 1) = -77; get(3, 5, 2) = -77
            """);
        String text = "3t-5=-2147483648;1.2147483647i4.-1;0a0=0;5.10a5.11;2v100=-100;0.0a0.0";
        PatchDesk desk = new PatchDesk();
        for (int k = 0; k < 6; k++) {
            Calls.typeAll(desk, text.split(";")[k]);
            desk.read();
        }
        for (int n = 0; n < text.length(); n++) {
            Calls.due("18 text", "text(24, " + n + ")", desk.text(24, n), text.charAt(n));
        }
        Calls.on(desk, "18 text", "text(24, NONE) = 69; text(24, 69) = BAD; text(24, -2) = BAD; text(24, MIN) = BAD");
        Calls.run("18 text: patches", """
            text(0, NONE) = BAD; text(-1, 0) = BAD; text(25, NONE) = BAD; text(24, 0) = BAD; text(24, NONE) = 0
            row(0, 4, 1) = 1; change(0, 4, 0, 1000000000) = 1; lay() = 0; text(0, NONE) = 14; text(0, 4) = 49
            text(0, 5) = 48; text(0, 13) = 48; text(0, 14) = BAD; text(24, NONE) = 0; text(1, NONE) = BAD
            undo() = 0; text(0, 1) = 101; text(0, 3) = 61
            """);
    }

    private static void promise19() {
        Calls.run("19 lay", """
            lay() = NOT; row(0, 4, 3) = 3; change(0, 4, 0, 5) = 1; change(0, 4, 1, 6) = 2; change(0, 5, 0, 1) = 3
            lay() = -14; get(0, 4, 0) = 0; count(0) = 0; count(2) = 3; fault(0) = 24; fault(1) = 2; fault(2) = 4
            drop() = 2; lay() = 0; count(2) = 0; get(0, 4, 0) = 5; get(0, 4, 1) = 6; count(8) = 0
            change(0, 4, 0, 7) = 1; lay() = 1; order(0) = 0; order(1) = 1; undo() = 1; count(3) = 1
            change(0, 4, 0, 8) = 1; change(0, 4, 9, 8) = 2; lay() = -15; count(3) = 1; drop() = 1
            lay() = 2; count(3) = 0; redo() = NOT; order(1) = 2; again(1) = 3
            """);
        PatchDesk desk = new PatchDesk();
        desk.row(0, 4, 1);
        for (int p = 0; p < 24; p++) {
            desk.change(0, 4, 0, p);
            Calls.due("19 lay", "lay number " + p, desk.lay(), p);
        }
        Calls.on(desk, "19 lay", """
            lay() = NOT; change(0, 5, 0, 0) = 1; lay() = FULL; fault(0) = NONE; met(14, 4) = 0; undo() = 23
            lay() = FULL; count(0) = 24; count(1) = 23; count(2) = 1; hangs(0) = 0; text(23, NONE) = 6
            redo() = 23; again(23) = NOT; keep() = 0; lift(0) = 0; get(0, 4, 0) = 0; order(23) = 0; order(24) = BAD
            keep() = 1; between(0, 1) = 1; swap(23) = BAD; swap(22) = 0; get(0, 4, 0) = 23; without(23, 0, 0) = 0
            go(0) = 24; order(23) = 23; with(23) = 1; again(23) = 24; count(7) = 23; prune() = 23; count(6) = 1
            settle() = 24; lay() = -14; drop() = 0; change(0, 4, 0, 0) = 1; lay() = 0
            """);
    }

    private static void promises20And21() {
        Calls.run("20 undo, 21 redo", """
            undo() = NOT; redo() = NOT; row(0, 4, 2) = 2; change(0, 4, 0, 1) = 1; lay() = 0; change(0, 4, 0, 2) = 1
            lay() = 1; change(0, 4, 0, 3) = 1; lay() = 2; undo() = 2; get(0, 4, 0) = 2; undo() = 1; undo() = 0
            undo() = NOT; get(0, 4, 0) = 0; count(3) = 3; redo() = 0; redo() = 1; get(0, 4, 0) = 2; count(3) = 1
            undo() = 1; redo() = 1; redo() = 2; redo() = NOT; count(3) = 0; get(0, 4, 0) = 3; lift(0) = 0
            undo() = 0; get(0, 4, 0) = 3; count(8) = 2
            """);
        Calls.run("21 redo: a finding, and what empties the list", """
            row(0, 4, 2) = 2; row(1, 4, 2) = 2; change(0, 4, 0, 1) = 1; change(0, 4, 1, 1) = 2; lay() = 0
            change(1, 4, 0, 1) = 1; lay() = 1; undo() = 1; undo() = 0; row(0, 4, 1) = 1; redo() = -15; fault(0) = 0
            fault(1) = 1; fault(2) = 5; count(3) = 2; row(0, 4, 2) = 2; prune() = 0; keep() = 0; count(3) = 2
            redo() = 0; redo() = 1; undo() = 1; out(1) = NOT; go(9) = BAD; count(3) = 1; lift(0) = 0; count(3) = 0
            again(1) = 2; undo() = 1; swap(0) = BAD; count(3) = 1; out(0) = 0; count(3) = 0
            again(0) = 1; again(1) = 2; undo() = 1; again(1) = 2; count(3) = 0; change(1, 4, 0, 5) = 1; lay() = 2
            undo() = 2; swap(0) = 0; count(3) = 0; again(2) = 3; undo() = 2; with(0) = 1; count(3) = 0
            undo() = 1; go(0) = 0; count(3) = 0; again(1) = 1; undo() = 1; settle() = 0; count(3) = 0
            """);
    }

    private static void promise22() {
        Calls.run("22 again", """
            again(0) = BAD; again(-1) = BAD; again(24) = BAD; row(0, 12, 2) = 2; row(1, 4, 2) = 2
            change(0, 12, 0, 5) = 1; lay() = 0; move(0, 0, 8, 1, 0) = 1; lay() = 1; again(0) = NOT; again(1) = NOT
            again(2) = BAD; undo() = 1; undo() = 0; again(1) = -14; fault(0) = 1; fault(1) = 0; fault(2) = 4
            count(3) = 2; again(0) = 1; count(3) = 0; again(1) = 2; get(1, 4, 0) = 5; order(0) = 0; order(1) = 1
            out(0) = -14; undo() = 1; out(0) = 0; again(0) = 1; again(1) = 2
            """);
    }

    private static void promise23() {
        Calls.run("23 out", """
            out(0) = BAD; out(-1) = BAD; out(24) = BAD; row(0, 4, 3) = 3; row(1, 5, 3) = 3
            change(0, 4, 0, 5) = 1; change(0, 4, 1, 6) = 2; lay() = 0
            move(0, 0, 4, 1, 0) = 1; move(0, 1, 4, 1, 1) = 2; move(1, 0, 5, 1, 2) = 3; change(0, 4, 2, 1) = 4; lay() = 1
            out(0) = 3; get(1, 5, 0) = 0; get(1, 5, 2) = 0; get(0, 4, 2) = 1; out(0) = NOT; count(1) = 1; order(0) = 1
            again(0) = 2; get(1, 5, 0) = 0; out(1) = 0; get(0, 4, 0) = 5; get(0, 4, 2) = 0; out(1) = NOT; out(2) = BAD
            """);
        Calls.run("23 out: a finding of another patch", """
            row(0, 12, 2) = 2; row(1, 11, 2) = 2; change(0, 13, 0, 1) = 1; lay() = 0; change(0, 12, 0, 1) = 1; lay() = 1
            change(1, 12, 1, 3) = 1; move(0, 0, 8, 1, 0) = 2; lay() = 2; undo() = 2; redo() = 2; keep() = 0
            out(1) = -14; fault(0) = 2; fault(1) = 1; fault(2) = 4; count(1) = 3; get(1, 8, 0) = 1; out(0) = 0
            out(1) = 1; what(1, 0) = 11; get(1, 8, 1) = 3
            """);
        Calls.run("23 out: what moves is what is written, in the type of its array", """
            row(0, 12, 1) = 1; row(1, 5, 1) = 1; change(0, 12, 0, 5) = 1; lay() = 0; change(0, 9, 0, 5) = 1; lay() = 1
            move(0, 0, 8, 1, 0) = 1; lay() = 2; what(0, 0) = 1; out(1) = 0; what(0, 0) = 4; get(1, 5, 0) = 5
            again(1) = 3; lift(2) = 0
            """);
    }

    private static void promises24And25() {
        Calls.run("24 lift", """
            lift(0) = BAD; lift(-1) = BAD; row(0, 4, 2) = 2; row(1, 5, 2) = 2; change(0, 4, 0, 5) = 1; lay() = 0
            move(0, 0, 4, 1, 0) = 1; change(0, 4, 1, 3) = 2; lay() = 1; change(0, 4, 0, 6) = 1; lay() = 2
            lift(2) = 0; lift(0) = 1; order(0) = 1; order(1) = 2; order(2) = 0; get(0, 4, 0) = 5; get(1, 5, 0) = 0
            lift(1) = 1; get(1, 5, 0) = 5; out(2) = 0; lift(2) = NOT; lift(3) = BAD; lift(0) = 1; get(1, 5, 0) = 0
            """);
        Calls.run("24 lift: a finding", """
            row(0, 12, 2) = 2; row(1, 4, 2) = 2; change(0, 12, 0, 4) = 1; lay() = 0; move(0, 0, 8, 1, 0) = 1; lay() = 1
            change(0, 19, 0, 0) = 1; lay() = 2; lift(1) = -14; fault(0) = 1; lift(0) = -14; fault(0) = 1; fault(1) = 0
            order(0) = 0; order(1) = 1; order(2) = 2; get(1, 4, 0) = 4; what(0, 0) = 11; lift(2) = 0
            """);
        Calls.run("25 swap", """
            swap(0) = BAD; swap(-1) = BAD; row(0, 4, 2) = 2; change(0, 4, 0, 5) = 1; lay() = 0; swap(0) = BAD
            move(0, 0, 4, 0, 1) = 1; lay() = 1; change(0, 4, 0, 7) = 1; lay() = 2; swap(2) = BAD; swap(MAX) = BAD
            swap(MIN) = BAD; swap(-1) = BAD; swap(1) = 1; get(0, 4, 1) = 7; order(1) = 2; order(2) = 1; swap(0) = 1
            order(0) = 2; order(1) = 0; get(0, 4, 0) = 5; get(0, 4, 1) = 5; swap(0) = 1; swap(0) = 1; swap(1) = 1
            swap(0) = 1; get(0, 4, 1) = 0; get(0, 4, 0) = 5
            """);
        Calls.run("25 swap: a finding", """
            row(0, 12, 2) = 2; row(1, 8, 2) = 2; change(0, 12, 0, 4) = 1; lay() = 0; change(0, 16, 0, 4) = 1; lay() = 1
            move(0, 0, 8, 1, 1) = 1; lay() = 2; swap(1) = -14; fault(0) = 2; order(1) = 1; swap(0) = -14; order(0) = 0
            get(1, 8, 1) = 4; count(1) = 3
            """);
    }

    private static final String CHAIN = """
        row(0, 4, 6) = 6; change(0, 4, 0, 5) = 1; lay() = 0; move(0, 0, 4, 0, 1) = 1; lay() = 1
        change(0, 4, 0, 6) = 1; lay() = 2; move(0, 0, 4, 0, 2) = 1; lay() = 3; move(0, 1, 4, 0, 3) = 1; lay() = 4
        change(0, 4, 4, 8) = 1; move(0, 4, 4, 0, 5) = 2; lay() = 5
        """;

    private static void promises26And27() {
        Calls.run("26 with", CHAIN + """
            with(-1) = BAD; with(6) = BAD; undo() = 5; redo() = 5; with(0) = 3; order(0) = 2; order(1) = 3; order(2) = 5
            count(1) = 3; count(0) = 6; with(0) = NOT; with(1) = NOT; get(0, 4, 1) = 0; get(0, 4, 2) = 6; with(3) = 1
            with(5) = 1; get(0, 4, 5) = 0; with(2) = 1; count(1) = 0; with(2) = NOT
            """);
        Calls.run("27 hangs", CHAIN + """
            hangs(-1) = BAD; hangs(6) = BAD; hangs(24) = BAD; hangs(0) = 18; hangs(1) = 16; hangs(2) = 8; hangs(3) = 0
            hangs(4) = 0; hangs(5) = 0; lift(0) = 2; hangs(0) = 0; hangs(1) = 16; lift(3) = 1; hangs(0) = 8; hangs(2) = 0
            undo() = 3; hangs(3) = NOT; hangs(0) = 0
            """);
        Calls.run("27 hangs: a copy depends by what it reads, though the value were the same without", """
            row(0, 4, 2) = 2; change(0, 4, 0, 0) = 1; lay() = 0; move(0, 0, 4, 0, 0) = 1; lay() = 1
            move(0, 0, 4, 0, 1) = 1; lay() = 2; hangs(0) = 6; hangs(1) = 4; count(5) = 0
            """);
    }

    private static void promise28() {
        Calls.run("28 without", """
            without(0, 0, 0) = !2; row(0, 12, 3) = 3; row(1, 4, 2) = 2; change(0, 12, 0, 5) = 1; lay() = 0
            move(0, 0, 8, 0, 1) = 1; lay() = 1; without(0, 0, 1) = !16; without(1, 0, 0) = 5; without(1, 0, 1) = !16
            without(-1, 0, 0) = !2; without(2, 0, 0) = !2; without(0, -1, 0) = !2; without(0, 6, 0) = !2
            without(0, 2, 0) = !11; row(2, 13, 0) = 0; without(0, 2, 0) = !12; without(0, 0, 3) = !15
            without(0, 0, -1) = !15; move(0, 1, 8, 1, 0) = 1; lay() = 2; without(0, 1, 0) = !14; without(1, 0, 0) = !14
            without(0, 0, 3) = !15; without(2, 1, 0) = 0; fault(0) = NONE; get(1, 4, 0) = 5; count(1) = 3; order(0) = 0
            undo() = 2; without(2, 0, 0) = !3; without(2, 9, 0) = !2; without(2, 3, 0) = !3; count(3) = 1
            """);
    }

    private static void promise29() {
        Calls.run("29 trace", """
            trace(0, 0, 0) = !2; row(0, 12, 3) = 3; row(1, 6, 2) = 2; change(0, 16, 0, 7) = 1; change(0, 19, 0, 7) = 2
            change(0, 12, 0, 9) = 3; move(0, 0, 8, 1, 0) = 4; lay() = 0
            trace(0, 0, 0) = 7; trace(0, 0, 1) = !16; trace(0, 1, 0) = !16; trace(0, 1, 1) = 7; trace(0, 2, 0) = 9
            trace(0, 2, 1) = !16; trace(0, 3, 0) = 72; trace(0, 3, 1) = 0; trace(0, 4, 0) = !2; trace(0, -1, 0) = !2
            trace(0, 0, 2) = !2; trace(0, 0, -1) = !2; trace(1, 0, 0) = !2; trace(-1, 0, 0) = !2; trace(24, 0, 0) = !2
            change(1, 6, 0, 3) = 1; lay() = 1; trace(1, 0, 1) = 72; trace(1, 0, 0) = 3; swap(0) = 0; trace(1, 0, 1) = 0
            trace(0, 3, 1) = 3; out(1) = 0; trace(1, 0, 0) = !3; trace(1, 1, 0) = !2; trace(1, 0, 2) = !2
            """);
    }

    private static void promises30And31() {
        Calls.run("30 dead", """
            dead(0) = BAD; dead(-1) = BAD; row(0, 4, 4) = 4; change(0, 4, 0, 1) = 1; change(0, 4, 0, 2) = 2
            move(0, 0, 4, 0, 1) = 3; change(0, 4, 0, 3) = 4; lay() = 0; dead(0) = 1; dead(1) = BAD; dead(24) = BAD
            change(0, 4, 1, 9) = 1; lay() = 1; dead(0) = 7; dead(1) = 0; count(7) = 3; undo() = 1; dead(1) = NOT
            dead(0) = 1; move(0, 1, 4, 0, 1) = 1; lay() = 2; dead(0) = 1; move(0, 1, 4, 0, 1) = 1; change(0, 4, 1, 0) = 2
            lay() = 3; dead(0) = 7; dead(2) = 1; dead(3) = 1; swap(1) = 1; dead(3) = 1; dead(2) = 0
            """);
        Calls.run("30 dead: a change with the old value is live, a change before another one of its element is dead", """
            row(0, 4, 2) = 2; change(0, 4, 0, 0) = 1; lay() = 0; dead(0) = 0; change(0, 4, 0, 0) = 1; lay() = 1
            dead(0) = 1; dead(1) = 0; move(0, 0, 4, 0, 1) = 1; lay() = 2; dead(1) = 0; dead(0) = 1; swap(1) = 0
            dead(0) = 0
            """);
        Calls.run("31 prune", """
            prune() = 0; row(0, 4, 4) = 4; change(0, 4, 0, 1) = 1; change(0, 4, 0, 2) = 2; move(0, 0, 4, 0, 1) = 3
            change(0, 4, 0, 3) = 4; change(0, 4, 2, 5) = 5; change(0, 4, 1, 8) = 6; lay() = 0; keep() = 0
            change(0, 4, 2, 6) = 1; lay() = 1; undo() = 1; count(7) = 3; prune() = 3; count(3) = 1; text(0, NONE) = 17
            text(0, 2) = 48; text(0, 4) = 51; text(0, 6) = 48; text(0, 8) = 50; text(0, 16) = 56; count(6) = 3
            get(0, 4, 0) = 3; get(0, 4, 1) = 8; get(0, 4, 2) = 5; dead(0) = 0; trace(0, 0, 1) = 0; trace(0, 3, 0) = !2
            redo() = 1; dead(0) = 2; prune() = 1; text(0, NONE) = 11; prune() = 0; undo() = 1; get(0, 4, 2) = 0
            again(1) = 2; go(0) = 1; get(0, 4, 2) = 0
            """);
        Calls.run("31 prune: what has gone does not move any more", """
            row(0, 4, 2) = 2; change(0, 4, 0, 1) = 1; change(0, 4, 1, 2) = 2; lay() = 0; change(0, 4, 1, 3) = 1; lay() = 1
            dead(0) = 2; prune() = 1; swap(0) = 0; swap(0) = 0; lift(0) = 0; without(1, 0, 1) = 0; out(1) = 0
            """);
        Calls.run("31 prune: a patch without changes stays, removed patches stay as they are", """
            row(0, 4, 2) = 2; change(0, 4, 0, 1) = 1; lay() = 0; change(0, 4, 0, 2) = 1; change(0, 4, 0, 3) = 2; lay() = 1
            undo() = 1; prune() = 0; text(1, NONE) = 11; redo() = 1; prune() = 2; count(0) = 2; count(1) = 2
            order(0) = 0; text(0, NONE) = 0; text(0, 0) = BAD; dead(0) = 0; hangs(0) = 0; undo() = 1; row(0, 5, 1) = 1
            out(0) = 0; again(0) = 1; lift(0) = 0; get(0, 5, 0) = 0; trace(0, 0, 0) = !2
            """);
    }

    private static void promises32To34() {
        Calls.run("32 order", """
            order(0) = BAD; row(0, 4, 1) = 1; change(0, 4, 0, 1) = 1; lay() = 0; change(0, 4, 0, 2) = 1; lay() = 1
            change(0, 4, 0, 3) = 1; lay() = 2; out(1) = 0; order(0) = 0; order(1) = 2; order(2) = BAD; order(-1) = BAD
            order(MAX) = BAD; again(1) = 3; order(2) = 1
            """);
        Calls.run("33 blame", """
            blame(-1, 0) = BAD; blame(6, 0) = BAD; blame(0, 0) = -11; row(0, 13, 0) = 0; blame(0, 0) = -12
            row(0, 4, 3) = 3; blame(0, 0) = NONE; blame(0, 3) = -15; blame(0, -1) = -15; change(0, 4, 0, 0) = 1
            lay() = 0; blame(0, 0) = 0; blame(0, 1) = NONE; move(0, 1, 4, 0, 0) = 1; move(0, 0, 4, 0, 1) = 2; lay() = 1
            blame(0, 0) = 1; blame(0, 1) = 1; lift(0) = 0; blame(0, 0) = 0; undo() = 0; blame(0, 0) = 1; undo() = 1
            blame(0, 0) = NONE
            """);
        Calls.run("34 since", """
            since(-1, 0) = BAD; since(6, 0) = BAD; since(0, 0) = -11; row(0, 14, 0) = 0; since(0, 0) = -12
            row(0, 4, 3) = 3; since(0, 3) = -15; since(0, -1) = -15; since(0, 0) = 0; change(0, 4, 0, 5) = 1; lay() = 0
            since(0, 0) = 1; since(0, 1) = 0; change(0, 4, 0, 5) = 1; lay() = 1; since(0, 0) = 1
            change(0, 4, 1, 1) = 1; lay() = 2; since(0, 0) = 1; since(0, 1) = 3; change(0, 4, 0, 6) = 1
            change(0, 4, 0, 5) = 2; lay() = 3; since(0, 0) = 1; change(0, 4, 0, 0) = 1; lay() = 4; since(0, 0) = 5
            undo() = 4; out(0) = 0; since(0, 0) = 1; change(0, 4, 0, 7) = 1; lay() = 5; change(0, 4, 0, 5) = 1; lay() = 6
            since(0, 0) = 5; change(0, 4, 0, 0) = 1; lay() = 7; change(0, 4, 2, 3) = 1; lay() = 8; since(0, 0) = 6
            """);
        Calls.run("34 since: a value that the base has too, and the same number with another type", """
            row(0, 12, 1) = 1; change(0, 12, 0, 5) = 1; lay() = 0; change(0, 9, 0, 5) = 1; lay() = 1; since(0, 0) = 2
            change(0, 19, 0, 0) = 1; lay() = 2; since(0, 0) = 3; out(0) = 0; out(1) = 0; since(0, 0) = 0
            """);
    }

    private static void promise35() {
        Calls.run("35 settle", """
            settle() = 0; row(0, 4, 2) = 2; row(1, 8, 1) = 1; change(0, 4, 0, 5) = 1; change(1, 16, 0, 4) = 2; lay() = 0
            change(0, 4, 1, 6) = 1; lay() = 1; change(0, 4, 1, 7) = 1; lay() = 2; undo() = 2; keep() = 0
            change(0, 5, 0, 1) = 1; lay() = -14; type(51) = 1; settle() = 2
            count(0) = 0; count(1) = 0; count(2) = 1; count(3) = 0; count(4) = 0; count(5) = 0; count(6) = 0; count(8) = NONE
            get(0, 4, 0) = 5; get(0, 4, 1) = 6; get(1, 8, 0) = 4; changed(0) = 0; changed(1) = 0; since(0, 0) = 0
            blame(0, 0) = NONE; fault(0) = 24; fault(2) = 4; met(14, 4) = 1; met(13, 0) = 3; met(17, 0) = 1; wipe() = 1
            text(24, NONE) = 5; go(0) = BAD; again(0) = BAD; redo() = NOT; undo() = NOT; drop() = 0
            change(0, 4, 0, 9) = 1; lay() = 0; undo() = 0; get(0, 4, 0) = 5; lose(0) = 4
            """);
    }

    private static void promises36And37() {
        Calls.run("36 keep, 37 go", """
            go(0) = BAD; keep() = 0; row(0, 4, 2) = 2; change(0, 4, 0, 5) = 1; lay() = 0; change(0, 4, 0, 6) = 1; lay() = 1
            keep() = 1; swap(0) = 0; keep() = 2; keep() = 3; undo() = 0; keep() = 4; keep() = 5; keep() = FULL; count(4) = 6
            go(1) = 2; get(0, 4, 0) = 6; count(3) = 0; order(0) = 0; order(1) = 1; go(2) = 2; get(0, 4, 0) = 5; order(0) = 1
            go(4) = 1; order(0) = 1; get(0, 4, 0) = 6; go(0) = 0; get(0, 4, 0) = 0; count(1) = 0; count(0) = 2
            go(6) = BAD; go(-1) = BAD; go(MIN) = BAD; change(0, 4, 0, 7) = 1; lay() = 2; go(1) = 2; again(2) = 3
            get(0, 4, 0) = 7
            """);
        Calls.run("37 go: a finding", """
            row(0, 4, 2) = 2; row(1, 4, 2) = 2; change(1, 4, 0, 1) = 1; lay() = 0; change(0, 4, 0, 1) = 1
            change(0, 4, 1, 1) = 2; lay() = 1; keep() = 0; undo() = 1; row(0, 4, 1) = 1; go(0) = -15; fault(0) = 1
            fault(1) = 1; fault(2) = 5; count(1) = 1; count(3) = 1; lose(0) = 4; go(0) = -11; row(0, 12, 2) = 2
            go(0) = -13; fault(1) = 0; row(0, 3, 2) = 2; go(0) = -14; row(0, 13, 2) = 0; go(0) = -12; row(0, 7, 2) = 2
            go(0) = 2; get(0, 7, 1) = 8
            """);
    }

    private static void promise38() {
        Calls.run("38 between", """
            between(0, 0) = BAD; keep() = 0; row(0, 4, 3) = 3; row(1, 12, 2) = 2; change(0, 4, 0, 5) = 1
            change(1, 12, 0, 1) = 2; lay() = 0; keep() = 1; change(0, 4, 0, 0) = 1; change(0, 4, 1, 5) = 2
            change(1, 9, 0, 1) = 3; lay() = 1; keep() = 2; between(0, 0) = 0; between(0, 1) = 2; between(1, 0) = 2
            between(1, 2) = 3; between(0, 2) = 2; between(2, 2) = 0; between(3, 0) = BAD; between(0, 3) = BAD
            between(-1, 0) = BAD; between(0, -1) = BAD; undo() = 1; between(2, 0) = 2; count(1) = 1; count(3) = 1
            get(0, 4, 0) = 5; fault(0) = NONE
            """);
        Calls.run("38 between: findings", """
            row(0, 4, 1) = 1; row(1, 4, 1) = 1; change(0, 4, 0, 5) = 1; lay() = 0; keep() = 0; undo() = 0
            change(1, 4, 0, 5) = 1; lay() = 1; keep() = 1; undo() = 1; keep() = 2; lose(0) = 4; row(1, 13, 0) = 0
            between(0, 1) = -11; between(1, 0) = -12; between(2, 0) = -11; between(2, 1) = -12; between(2, 2) = 0
            between(0, 3) = BAD; fault(0) = NONE; fault(2) = NONE
            """);
    }

    private static void promise39() {
        Calls.run("39 fault", """
            fault(0) = NONE; fault(1) = NONE; fault(2) = NONE; fault(3) = BAD; fault(-1) = BAD; row(0, 4, 2) = 2
            lose(5) = -11; row(1, 4, -1) = -17; get(0, 8, 9) = !15; fault(2) = NONE; change(0, 4, 0, 1) = 1
            change(0, 4, 2, 1) = 2; lay() = -15; fault(0) = 24; fault(1) = 1; fault(2) = 5; fault(3) = BAD; fault(MIN) = BAD
            drop() = 1; lay() = 0; fault(0) = 24; fault(1) = 1; undo() = 0; lose(0) = 4; again(0) = -11; fault(0) = 0
            fault(1) = 0; fault(2) = 1
            """);
    }

    private static void promise40() {
        Calls.run("40 met", """
            met(-1, 0) = BAD; met(18, 0) = BAD; met(0, -1) = BAD; met(0, 6) = BAD; met(17, 5) = 0; met(MAX, MAX) = BAD
            row(0, 4, 2) = 2; row(1, 12, 2) = 2; get(0, 4, 0) = 0; get(0, 3, 0) = !14; get(1, 8, 0) = !16
            get(2, 5, 0) = !11; get(9, 5, 0) = !2; get(0, 4, 7) = !15; met(4, 0) = 1; met(3, 4) = 1; met(8, 0) = 1
            met(5, 1) = 1; met(4, 5) = 1; change(0, 4, 0, 1) = 1; move(0, 0, 4, 0, 1) = 2; move(0, 0, 8, 1, 0) = 3
            change(0, 0, 0, 1) = 4; change(0, 4, 0, 1) = 5; preview(4) = 0; met(13, 0) = 0; lay() = -14
            met(13, 0) = 2; met(4, 0) = 2; met(8, 0) = 2; met(17, 0) = 1; met(9, 4) = 1; lay() = -14; met(13, 0) = 4
            drop() = 4; drop() = 3; lay() = 0; met(13, 0) = 6; met(17, 0) = 3; undo() = 0; redo() = 0; lift(0) = 0
            out(0) = 0; again(0) = 1; met(13, 0) = 6; move(1, 1, 4, 0, 0) = 1; lay() = -13; met(4, 3) = 1; met(13, 3) = 0
            """);
        Calls.run("40 met: ways 8 to 19 together, 20 and 21 not", """
            row(0, 9, 2) = 2; row(1, 10, 1) = 1; change(0, 17, 0, 1) = 1; change(0, 18, 1, 1) = 2
            change(0, 19, 0, 1) = 3; change(0, 21, 0, 1) = 4; change(0, 20, 0, 1) = 5; lay() = 0; met(17, 0) = 3
            change(1, 20, 0, 1) = 1; lay() = -14; met(17, 4) = 0; drop() = 0; change(1, 17, 0, 1) = 1; lay() = -14
            met(17, 4) = 1; drop() = 0; move(0, 0, 8, 1, 0) = 1; lay() = -14; met(8, 0) = 1; met(17, 4) = 2; drop() = 0
            move(0, 9, 8, 1, 0) = 1; lay() = -15; met(8, 5) = 1; met(17, 5) = 0; drop() = 0; change(1, 8, 0, 1) = 1
            lay() = -14; met(17, 4) = 3; met(9, 4) = 0; lay() = -14; met(17, 4) = 4
            """);
        PatchDesk desk = new PatchDesk();
        for (int way = 0; way <= 7; way++) {
            desk.change(0, way, 0, 0);
            desk.lay();
            desk.drop();
            Calls.due("40 met", "met(" + (9 + way) + ", 1)", desk.met(9 + way, 1), 1);
        }
    }

    private static void promise41() {
        Calls.run("41 count", """
            count(-1) = BAD; count(9) = BAD; row(0, 4, 4) = 4; row(1, 7, 2) = 2; row(2, 14, 0) = 0
            change(0, 4, 0, 5) = 1; change(0, 4, 1, 5) = 2; change(1, 4, 0, 5) = 3; count(2) = 3; lay() = 0
            change(0, 4, 0, 6) = 1; lay() = 1; change(0, 4, 1, 6) = 1; lay() = 2; change(0, 4, 2, 6) = 1; keep() = 0
            keep() = 1; count(0) = 3; count(1) = 3; count(2) = 1; count(3) = 0; count(4) = 2; count(5) = 3; count(6) = 5
            count(7) = 2; count(8) = 2; undo() = 2; undo() = 1; count(0) = 3; count(1) = 1; count(3) = 2; count(6) = 3
            count(7) = 0; count(8) = 0; undo() = 0; count(8) = NONE; count(5) = 0
            """);
    }

    private static void promise42() {
        PatchDesk desk = new PatchDesk();
        Calls.due("42 digest", "of a new object", desk.digest(), digestOf(desk));
        Calls.on(desk, "42 digest", CHAIN + """
            row(1, 14, 0) = 0; row(2, 12, 2) = 2; change(2, 16, 0, 7) = 1; change(0, 4, 0, 1) = 2; lay() = 6; undo() = 6
            redo() = 6; keep() = 0; undo() = 6; undo() = 5; get(0, 3, 0) = !14; get(2, 8, 0) = !16; change(0, 5, 0, 1) = 1
            change(0, 4, 0, 1) = 2; lay() = -14
            type 3a0=7;x
            """);
        long before = desk.digest();
        Calls.due("42 digest", "of a busy object", before, digestOf(desk));
        Calls.due("42 digest", "again", desk.digest(), before);
    }

    /** The hash from the answers that the object gives of itself. */
    private static long digestOf(PatchDesk desk) {
        long h = 17;
        for (int what = 0; what <= 8; what++) {
            h = 31 * h + desk.count(what);
        }
        for (int s = 0; s <= 5; s++) {
            h = 31 * (31 * (31 * h + desk.kind(s)) + desk.size(s)) + desk.changed(s);
            for (int i = 0; i < desk.size(s); i++) {
                h = 31 * h + desk.what(s, i);
                h = 31 * h + uncountedNumber(desk, s, i);
                h = 31 * h + desk.blame(s, i);
                h = 31 * h + desk.since(s, i);
            }
        }
        for (int n = 0; n < desk.count(1); n++) {
            int p = desk.order(n);
            h = 31 * (31 * (31 * (31 * h + p) + desk.hangs(p)) + desk.dead(p)) + desk.text(p, PatchDesk.NONE);
            for (int k = 0; desk.trace(p, k, 0) != Long.MIN_VALUE + 2; k++) {
                h = 31 * (31 * h + desk.trace(p, k, 0)) + desk.trace(p, k, 1);
            }
        }
        for (int k = 0; k < desk.count(2); k++) {
            h = 31 * h + desk.preview(k);
        }
        h = 31 * h + desk.flaw();
        for (int what = 0; what <= 2; what++) {
            h = 31 * h + desk.fault(what);
        }
        for (int row = 0; row <= 17; row++) {
            for (int answer = 0; answer <= 5; answer++) {
                h = 31 * h + desk.met(row, answer);
            }
        }
        return h;
    }

    /** get() would be counted, so the number is told by what a patch has done or, untouched, is 0 or null. */
    private static long uncountedNumber(PatchDesk desk, int s, int i) {
        int p = desk.blame(s, i);
        if (p == PatchDesk.NONE) {
            return desk.what(s, i) == 11 ? Long.MIN_VALUE + 16 : 0;
        }
        return desk.trace(p, 0, 0);
    }
}
