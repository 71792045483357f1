/** Every fault of Terms 3, its number and its place; promises 2 to 6, 32. */
public final class JudgingTest {
    private static final Checks CHECKS = new Checks("JudgingTest");

    public static void main(String[] args) {
        tapes();
        documents();
        names();
        signs();
        texts();
        fixedWidths();
        binaries();
        rows();
        scopes();
        depths();
        faultAnswers();
        takes();
        CHECKS.finish();
    }

    private static void tapes() {
        SpanShelves x = new SpanShelves();
        CHECKS.same("taped at first", 0, x.taped());
        CHECKS.same("end(1) of none", false, x.end(1));
        CHECKS.same("end(0) of none", true, x.end(0));
        CHECKS.same("end(-1)", false, x.end(-1));
        CHECKS.same("feed", 20, x.feed(0x05000000, 0x00ABCDEF, 0, 0, -1));
        CHECKS.same("end beyond", false, x.end(21));
        CHECKS.same("taped", 20, x.taped());
        CHECKS.same("end whole", true, x.end(20));
        CHECKS.same("end(5)", true, x.end(5));
        CHECKS.same("taped", 5, x.taped());
        CHECKS.same("end(6)", false, x.end(6));
        CHECKS.same("judge", 0, x.judge());
        CHECKS.same("judge leaves the tape", 5, x.taped());
        CHECKS.same("feed behind it", 25, x.feed(0, 0, 0, 0, 0));
        CHECKS.same("judge", 9, x.judge());
        CHECKS.same("place", 5, x.fault(1));
        x.end(0);
        for (int k = 1; k <= 99; k++) {
            CHECKS.same("feed", 20 * k, x.feed(k, k, k, k, k));
        }
        x.end(1979);
        CHECKS.same("feed to 1999", 1999, x.feed(1, 1, 1, 1, 1));
        CHECKS.same("feed too much", -1, x.feed(1, 1, 1, 1, 1));
        CHECKS.same("taped", 1999, x.taped());
        x.end(1980);
        CHECKS.same("feed to 2000", 2000, x.feed(1, 1, 1, 1, 1));
        CHECKS.same("feed to 2020", -1, x.feed(1, 1, 1, 1, 1));
        x.end(1981);
        CHECKS.same("feed to 2001", -1, x.feed(1, 1, 1, 1, 1));
        Bytes.tape(x, Bytes.doc(Bytes.el(9, "n", Bytes.hex("80 FF 01 7F 00 FE 10 20"))));
        x.take(0);
        CHECKS.same("bytes keep their order", "1000000009" + "6e00" + "80ff017f00fe1020" + "00", Bytes.show(Bytes.shelf(x, 0)));
    }

    /** The bytes are judged as a root. */
    private static void root(String what, int fault, int place, byte[]... parts) {
        SpanShelves x = new SpanShelves();
        Bytes.tape(x, parts);
        CHECKS.same(what + ", judge()", fault, x.judge());
        CHECKS.same(what + ", fault(0)", fault, x.fault(0));
        CHECKS.same(what + ", fault(1)", place, x.fault(1));
        String due = fault == 0 ? String.valueOf(Bytes.join(parts).length) : "IllegalArgumentException";
        CHECKS.same(what + ", take(0)", due, Bytes.said(() -> x.take(0)));
        CHECKS.same(what + ", taped()", 0, x.taped());
    }

    /** The bytes of one element begin at place 4. */
    private static void inRoot(String what, int fault, int place, byte[]... parts) {
        root(what, fault, place, Bytes.doc(parts));
    }

    private static void documents() {
        root("nothing", 1, 0);
        root("three bytes", 1, 0, Bytes.hex("050000"));
        root("four bytes", 1, 0, Bytes.hex("05000000"));
        root("LENGTH 4", 2, 0, Bytes.hex("0400000000"));
        root("LENGTH 4 of four bytes", 2, 0, Bytes.hex("04000000"));
        root("LENGTH below 0", 2, 0, Bytes.hex("FFFFFFFF00"));
        root("LENGTH least", 2, 0, Bytes.hex("0000008000"));
        root("LENGTH 6 of 5", 1, 0, Bytes.hex("0600000000"));
        root("LENGTH greatest", 1, 0, Bytes.hex("FFFFFF7F00"));
        root("empty", 0, -1, Bytes.doc());
        root("last byte 1", 4, 4, Bytes.hex("0500000001"));
        root("a byte more", 9, 5, Bytes.doc(), Bytes.one(0));
        root("last byte goes ahead of a byte more", 4, 4, Bytes.hex("050000000100"));
        for (int type = 0; type < 256; type++) {
            boolean is = type >= 1 && type <= 19 || type == 127 || type == 255;
            SpanShelves x = new SpanShelves();
            Bytes.tape(x, Bytes.doc(Bytes.one(type), Bytes.nm("a")));
            x.judge();
            CHECKS.same("type " + type, !is, x.fault(0) == 3);
        }
        inRoot("type 0", 3, 4, Bytes.el(0, "a"));
        inRoot("type 20", 3, 7, Bytes.el(10, "a"), Bytes.el(20, "b"));
        inRoot("type at the last place", 1, 5, Bytes.one(10));
        root("inner LENGTH beyond the wall", 1, 7, Bytes.doc(Bytes.el(3, "a", Bytes.hex("0600000000"))));
        root("inner LENGTH to the wall", 4, 12, Bytes.hex("0D000000 03 6100 0500000000 01"));
        root("inner LENGTH 4", 2, 7, Bytes.doc(Bytes.el(3, "a", Bytes.hex("0400000000"))));
    }

    private static void names() {
        inRoot("name without 0", 1, 5, Bytes.one(10), Bytes.raw("abc"));
        inRoot("empty name", 0, -1, Bytes.el(10, ""));
        inRoot("name with bad byte", 5, 6, Bytes.one(10), Bytes.hex("61 80 00"));
        inRoot("no 0 goes ahead of bad byte", 1, 5, Bytes.one(10), Bytes.hex("61 80"));
        inRoot("two names", 0, -1, Bytes.el(11, "r", Bytes.join(Bytes.nm("a"), Bytes.nm(""))));
        inRoot("second name missing", 1, 9, Bytes.el(11, "r", Bytes.nm("a")));
        inRoot("first name missing", 1, 7, Bytes.el(11, "r", Bytes.raw("ab")));
        inRoot("second name bad", 5, 10, Bytes.el(11, "r", Bytes.hex("6100 62C300")));
        inRoot("first name bad", 5, 7, Bytes.el(11, "r", Bytes.hex("FF00 6200")));
    }

    private static void signs() {
        String[] good = {"00", "7F", "C280", "DFBF", "E0A080", "E0BFBF", "E18080", "ECBFBF", "ED8080", "ED9FBF", "EE8080",
            "EFBFBF", "F0908080", "F0BFBFBF", "F1808080", "F3BFBFBF", "F48FBFBF"};
        String[] bad = {"80", "BF", "C080", "C1BF", "C27F", "C2C0", "C2", "E09FBF", "E08080", "E0A0", "E1807F", "E180C0", "E17F80",
            "E1C080", "EDA080", "EDBFBF", "E1", "E180", "F08FBFBF", "F0808080", "F4908080", "F5808080", "F8888080", "FE", "FF", "F0",
            "F090", "F09080", "F090807F", "F09080C0", "F0907F80", "F0C08080", "F1808000", "F4BFBFBF", "F7BFBFBF", "C200", "E10080"};
        for (String sign : good) {
            byte[] bytes = Bytes.hex("41" + sign + "42");
            inRoot("text with sign " + sign, 0, -1, Bytes.el(2, "a", Bytes.join(Bytes.i32(bytes.length + 1), bytes, Bytes.one(0))));
            if (!sign.equals("00")) {
                inRoot("name with sign " + sign, 0, -1, Bytes.one(10), bytes, Bytes.one(0));
                inRoot("name ending in sign " + sign, 0, -1, Bytes.one(10), Bytes.hex(sign), Bytes.one(0));
            }
        }
        for (String sign : bad) {
            byte[] bytes = Bytes.hex("41C3A4" + sign);
            inRoot("text with sign " + sign, 5, 14, Bytes.el(2, "a", Bytes.join(Bytes.i32(bytes.length + 1), bytes, Bytes.one(0))));
            if (!sign.contains("00")) {
                inRoot("name with sign " + sign, 5, 8, Bytes.one(10), bytes, Bytes.one(0));
                inRoot("two bad signs, " + sign, 5, 8, Bytes.one(10), bytes, Bytes.hex("41FF00"));
            }
        }
    }

    private static void texts() {
        for (int type : new int[] {2, 13, 14}) {
            inRoot("text", 0, -1, Bytes.el(type, "a", Bytes.text("hello")));
            inRoot("empty text", 0, -1, Bytes.el(type, "a", Bytes.text("")));
            inRoot("text with 0s", 0, -1, Bytes.el(type, "a", Bytes.hex("04000000 00000000")));
            inRoot("INT cut", 1, 7, Bytes.el(type, "a", Bytes.hex("010000")));
            inRoot("LENGTH 0", 2, 7, Bytes.el(type, "a", Bytes.hex("00000000 00")));
            inRoot("LENGTH below 0", 2, 7, Bytes.el(type, "a", Bytes.hex("FFFFFFFF 00")));
            inRoot("LENGTH 0 at the wall", 2, 7, Bytes.el(type, "a", Bytes.hex("00000000")));
            inRoot("LENGTH 1 at the wall", 1, 7, Bytes.el(type, "a", Bytes.hex("01000000")));
            inRoot("LENGTH beyond", 1, 7, Bytes.el(type, "a", Bytes.hex("02000000 00")));
            inRoot("LENGTH greatest", 1, 7, Bytes.el(type, "a", Bytes.hex("FFFFFF7F 00")));
            inRoot("last byte", 4, 12, Bytes.el(type, "a", Bytes.hex("02000000 FF01")));
            inRoot("bad sign", 5, 11, Bytes.el(type, "a", Bytes.hex("02000000 FF00")));
            inRoot("sign cut by the last 0", 5, 12, Bytes.el(type, "a", Bytes.hex("04000000 41E28200")));
        }
        inRoot("12", 0, -1, Bytes.el(12, "a", Bytes.join(Bytes.text("x"), Bytes.zeros(12))));
        inRoot("12 with eleven", 1, 13, Bytes.el(12, "a", Bytes.join(Bytes.text("x"), Bytes.zeros(11))));
        inRoot("12 with bad text", 2, 7, Bytes.el(12, "a", Bytes.join(Bytes.i32(0), Bytes.zeros(13))));
    }

    private static void fixedWidths() {
        int[][] widths = {{1, 8}, {6, 0}, {7, 12}, {8, 1}, {9, 8}, {10, 0}, {16, 4}, {17, 8}, {18, 8}, {19, 16}, {127, 0}, {255, 0}};
        for (int[] pair : widths) {
            inRoot("type " + pair[0], 0, -1, Bytes.el(pair[0], "ab", Bytes.zeros(pair[1])), Bytes.el(10, "z"));
            if (pair[1] > 0) {
                inRoot("type " + pair[0] + " cut", 1, 8, Bytes.el(pair[0], "ab", Bytes.zeros(pair[1] - 1)));
            }
            inRoot("type " + pair[0] + " and a 0", 3, 8 + pair[1], Bytes.el(pair[0], "ab", Bytes.zeros(pair[1] + 1)));
        }
        inRoot("true", 0, -1, Bytes.el(8, "a", Bytes.one(1)));
        inRoot("byte 2", 7, 7, Bytes.el(8, "a", Bytes.one(2)));
        inRoot("byte 255", 7, 7, Bytes.el(8, "a", Bytes.one(255)));
    }

    private static void binaries() {
        inRoot("binary", 0, -1, Bytes.el(5, "a", Bytes.binary(0, Bytes.zeros(3))));
        inRoot("binary without bytes", 0, -1, Bytes.el(5, "a", Bytes.binary(255, Bytes.zeros(0))));
        inRoot("INT cut", 1, 7, Bytes.el(5, "a", Bytes.zeros(3)));
        inRoot("no KIND", 1, 7, Bytes.el(5, "a", Bytes.zeros(4)));
        inRoot("n below 0", 2, 7, Bytes.el(5, "a", Bytes.hex("FFFFFFFF 00")));
        inRoot("n below 0 goes ahead of no KIND", 2, 7, Bytes.el(5, "a", Bytes.hex("FFFFFFFF")));
        inRoot("n beyond", 1, 7, Bytes.el(5, "a", Bytes.hex("02000000 00 00")));
        inRoot("n greatest", 1, 7, Bytes.el(5, "a", Bytes.hex("FFFFFF7F 00 00")));
        inRoot("KIND 2", 0, -1, Bytes.el(5, "a", Bytes.binary(2, Bytes.hex("02000000 0908"))));
        inRoot("KIND 2 with 0", 0, -1, Bytes.el(5, "a", Bytes.binary(2, Bytes.i32(0))));
        inRoot("KIND 2 with 3 bytes", 2, 7, Bytes.el(5, "a", Bytes.binary(2, Bytes.zeros(3))));
        inRoot("KIND 2 beyond", 1, 7, Bytes.el(5, "a", Bytes.hex("04000000 02 000000")));
        inRoot("KIND 2 with wrong INT", 2, 12, Bytes.el(5, "a", Bytes.binary(2, Bytes.hex("03000000 0908"))));
        inRoot("KIND 3 needs no INT", 0, -1, Bytes.el(5, "a", Bytes.binary(3, Bytes.zeros(3))));
    }

    private static void rows() {
        byte[][] many = new byte[120][0];
        inRoot("row of 120", 0, -1, Bytes.el(4, "r", Bytes.row(10, many)));
        inRoot("empty row", 0, -1, Bytes.el(4, "r", Bytes.doc()));
        inRoot("begins with 1", 6, 12, Bytes.el(4, "r", Bytes.doc(Bytes.el(10, "1"))));
        inRoot("empty name", 6, 12, Bytes.el(4, "r", Bytes.doc(Bytes.el(10, ""))));
        inRoot("00", 6, 12, Bytes.el(4, "r", Bytes.doc(Bytes.el(10, "00"))));
        inRoot("0 twice", 6, 15, Bytes.el(4, "r", Bytes.doc(Bytes.el(10, "0"), Bytes.el(10, "0"))));
        inRoot("01", 6, 15, Bytes.el(4, "r", Bytes.doc(Bytes.el(10, "0"), Bytes.el(10, "01"))));
        inRoot("6 goes ahead of 5", 6, 12, Bytes.el(4, "r", Bytes.doc(Bytes.one(10), Bytes.hex("FF00"))));
        inRoot("1 goes ahead of 6", 1, 12, Bytes.el(4, "r", Bytes.doc(Bytes.one(10), Bytes.raw("1"))));
        inRoot("3 goes ahead of 6", 3, 11, Bytes.el(4, "r", Bytes.doc(Bytes.el(0, "1"))));
        inRoot("6 goes ahead of the value's", 6, 12, Bytes.el(4, "r", Bytes.doc(Bytes.el(8, "x", Bytes.one(9)))));
        inRoot("names in a row's document are free", 0, -1, Bytes.el(4, "r", Bytes.row(3, Bytes.doc(Bytes.el(10, "x")))));
        inRoot("row in a row", 6, 19, Bytes.el(4, "r", Bytes.row(4, Bytes.doc(Bytes.el(10, "x")))));
        byte[][] ten = new byte[10][0];
        byte[] nine = Bytes.row(10, ten);
        byte[] elements = java.util.Arrays.copyOfRange(nine, 4, nine.length - 1);
        inRoot("10 is due behind 9", 6, 42, Bytes.el(4, "r", Bytes.doc(elements, Bytes.el(10, "01"))));
    }

    private static void scopes() {
        byte[] sound = Bytes.scoped("f()", Bytes.doc(Bytes.el(16, "x", Bytes.i32(9))));
        inRoot("scoped", 0, -1, Bytes.el(15, "a", sound));
        inRoot("least scoped", 0, -1, Bytes.el(15, "a", Bytes.scoped("", Bytes.doc())));
        inRoot("INT cut", 1, 7, Bytes.el(15, "a", Bytes.zeros(3)));
        inRoot("LENGTH 13", 2, 7, Bytes.el(15, "a", Bytes.join(Bytes.i32(13), Bytes.text(""), Bytes.doc())));
        inRoot("LENGTH beyond", 1, 7, Bytes.el(15, "a", Bytes.join(Bytes.i32(15), Bytes.text(""), Bytes.doc())));
        inRoot("LENGTH greatest", 1, 7, Bytes.el(15, "a", Bytes.join(Bytes.i32(Integer.MAX_VALUE), Bytes.text(""), Bytes.doc())));
        inRoot("document ends early", 2, 7, Bytes.el(15, "a", Bytes.join(Bytes.i32(15), Bytes.text(""), Bytes.doc(), Bytes.one(0))));
        inRoot("document beyond its end", 1, 16, Bytes.el(15, "a", Bytes.join(Bytes.i32(14), Bytes.text(""), Bytes.i32(6), Bytes.zeros(2))));
        inRoot("text beyond its end", 1, 11, Bytes.el(15, "a", Bytes.join(Bytes.i32(14), Bytes.i32(7), Bytes.zeros(6))), Bytes.zeros(9));
        inRoot("text with LENGTH 0", 2, 11, Bytes.el(15, "a", Bytes.join(Bytes.i32(14), Bytes.i32(0), Bytes.zeros(6))));
        inRoot("its document is no row", 0, -1, Bytes.el(15, "a", Bytes.scoped("", Bytes.doc(Bytes.el(10, "q")))));
    }

    private static void depths() {
        root("depth 24", 0, -1, Bytes.nest(24));
        root("depth 25", 8, 4 + 6 * 23 + 2, Bytes.nest(25));
        byte[] row = Bytes.doc();
        byte[] scoped = Bytes.doc();
        for (int k = 1; k < 24; k++) {
            row = Bytes.row(4, row);
            scoped = Bytes.doc(Bytes.el(15, "", Bytes.scoped("", scoped)));
        }
        root("rows to depth 25", 8, 7 * 24, Bytes.doc(Bytes.el(4, "r", row)));
        root("scopes to depth 24", 0, -1, scoped);
        root("scopes to depth 25", 8, 4 + 15 * 23 + 2 + 9, Bytes.doc(Bytes.el(15, "", Bytes.scoped("", scoped))));
        byte[] cut = Bytes.nest(25);
        cut[6 * 24] = 3;
        root("8 goes ahead of what stands in it", 8, 4 + 6 * 23 + 2, cut);
    }

    private static void faultAnswers() {
        SpanShelves x = new SpanShelves();
        CHECKS.same("fault(0) ahead of any", 0, x.fault(0));
        CHECKS.same("fault(1) ahead of any", -1, x.fault(1));
        CHECKS.same("fault(2)", -1, x.fault(2));
        CHECKS.same("fault(-1)", -1, x.fault(-1));
        Bytes.tape(x, Bytes.hex("0500000007"));
        x.judge();
        CHECKS.same("fault(2)", -1, x.fault(2));
        CHECKS.same("take(4)", "IndexOutOfBoundsException", Bytes.said(() -> x.take(4)));
        CHECKS.same("the older fault stays", 4, x.fault(0));
        CHECKS.same("its place stays", 4, x.fault(1));
        Bytes.tape(x, Bytes.doc());
        x.take(3);
        CHECKS.same("no fault any more", 0, x.fault(0));
        CHECKS.same("no place any more", -1, x.fault(1));
    }

    private static void takes() {
        SpanShelves x = new SpanShelves();
        for (int shelf : new int[] {-1, 4, Integer.MIN_VALUE, Integer.MAX_VALUE}) {
            Bytes.tape(x, Bytes.doc());
            CHECKS.same("take(" + shelf + ")", "IndexOutOfBoundsException", Bytes.said(() -> x.take(shelf)));
            CHECKS.same("the tape is used up", 0, x.taped());
        }
        byte[] document = Bytes.doc(Bytes.el(3, "a", Bytes.doc(Bytes.el(10, "b"))), Bytes.el(10, "c"));
        for (int shelf = 0; shelf < 4; shelf++) {
            Bytes.tape(x, document);
            CHECKS.same("take", document.length, x.take(shelf));
            CHECKS.same("bytes", Bytes.show(document), Bytes.show(Bytes.shelf(x, shelf)));
        }
        x.in(1);
        x.go(2, 1);
        Bytes.tape(x, Bytes.hex("0500000001"));
        CHECKS.same("take of a fault", "IllegalArgumentException", Bytes.said(() -> x.take(1)));
        CHECKS.same("the shelf stays", Bytes.show(document), Bytes.show(Bytes.shelf(x, 1)));
        CHECKS.same("its cursor stays", 2, x.look(1, 1));
        Bytes.tape(x, document);
        x.take(1);
        CHECKS.same("depth behind take", 1, x.look(1, 1));
        CHECKS.same("number behind take", 0, x.look(1, 5));
        CHECKS.same("another shelf's cursor stays", 1, x.look(2, 5));
        Bytes.tape(x, Bytes.doc());
        x.take(1);
        CHECKS.same("at none", -1, x.look(1, 5));
        byte[] greatest = Bytes.doc(Bytes.el(5, "", Bytes.binary(0, Bytes.zeros(1988))));
        Bytes.tape(x, greatest);
        CHECKS.same("take of 2000 bytes", 2000, x.take(0));
    }
}
