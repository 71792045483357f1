/** Terms 1 to 3: for each sentence that names a boundary case, tapes on both sides of it. */
public final class JudgingEdgesTest {
    private static final Edges EDGES = new Edges("JudgingEdgesTest");
    private static final int NONE = SpanShelves.NONE;
    private static final int LEAST = Integer.MIN_VALUE;
    private static final int GREATEST = Integer.MAX_VALUE;
    private static final int[][] WIDTHS = {{1, 8}, {7, 12}, {8, 1}, {9, 8}, {16, 4}, {17, 8}, {18, 8}, {19, 16}};
    private static final int[] NO_TYPES = {0, 20, 21, 64, 126, 128, 254};

    public static void main(String[] args) {
        bytesAndNumbers();
        signs();
        partsOfTheForm();
        utf8OfTheForm();
        typesOfTheForm();
        widthsOfTheForm();
        namesAndTextsOfTheForm();
        binariesAndScopesOfTheForm();
        rowsOfTheForm();
        depths();
        firstFault();
        walls();
        names();
        rowNames();
        texts();
        documents();
        elements();
        binaries();
        booleans();
        scopes();
        scopesEnds();
        partsOfValues();
        wholeTape();
        EDGES.finish();
    }

    private static void says(String sentence) {
        EDGES.says("Terms", sentence);
    }

    /** The bytes are judged as a root. */
    private static void root(String what, int fault, int place, byte[]... parts) {
        Run r = EDGES.run("(" + what + ")").tape(parts);
        r.due("judge()", fault).fault(fault, place);
        if (fault == 0) {
            r.due("take(0)", Bytes.join(parts).length).fault(0, NONE);
        } else {
            r.faulty("take(0)", fault, place);
        }
    }

    /** The bytes are those of a root's elements; the first one is at place 4. */
    private static void inRoot(String what, int fault, int place, byte[]... elements) {
        root(what, fault, place, Bytes.doc(elements));
    }

    /** The bytes are the value of an element whose name has one byte: the value is at place 7. */
    private static void value(String what, int fault, int place, int type, byte[]... parts) {
        inRoot(what, fault, place, Bytes.el(type, "a", Bytes.join(parts)));
    }

    private static byte[] textOf(int length, String bytes) {
        return Bytes.join(Bytes.i32(length), Bytes.hex(bytes));
    }

    // ---- Terms 1 and 2

    private static void bytesAndNumbers() {
        Run r = EDGES.says("Terms", "THE TAPE has at most 2000 bytes (0 .. 255).");
        byte[] greatest = Bytes.doc(Bytes.el(5, "", Bytes.join(Bytes.i32(1988), Bytes.one(255), Bytes.hex("00FF80"), Bytes.zeros(1984),
            Bytes.one(255))));
        r.tape(greatest).due("taped()", 2000).idle("feed(-1, -1, -1, -1, -1)", NONE).due("judge()", 0).due("take(2)", 2000);
        r.due("byteAt(2, 10)", 255).due("byteAt(2, 11)", 0).due("byteAt(2, 12)", 255).due("byteAt(2, 13)", 128).due("byteAt(2, 1998)", 255);
        String[][] numbers = {{"16", "00000080", "-2147483648"}, {"16", "FFFFFF7F", "2147483647"}, {"16", "FFFFFFFF", "-1"},
            {"16", "01020304", "67305985"},
            {"18", "0000000000000080", "-9223372036854775808"}, {"18", "FFFFFFFFFFFFFF7F", "9223372036854775807"}, {"18", "FFFFFFFFFFFFFFFF", "-1"},
            {"18", "FFFFFFFF00000000", "4294967295"}, {"18", "0000008000000000", "2147483648"}, {"18", "0102030405060708", "578437695752307201"}};
        EDGES.says("Terms", "An INT is four bytes, a LONG eight, the lowest first, with sign.");
        for (String[] number : numbers) {
            EDGES.run(number[1]).take(0, Bytes.doc(Bytes.el(Integer.parseInt(number[0]), "n", Bytes.hex(number[1])))).due("number(0)", number[2]);
        }
    }

    private static void signs() {
        says("UTF-8 is that of RFC 3629: one to four bytes for a sign, the shortest form, 0 .. D7FF and E000 .. 10FFFF.");
        String[] good = {"01", "7F", "C280", "DFBF", "E0A080", "ED9FBF", "EE8080", "EFBFBF", "F0908080", "F48FBFBF"};
        for (String sign : good) {
            inRoot("a name " + sign, 0, NONE, Bytes.one(10), Bytes.hex(sign), Bytes.one(0));
            value("a text " + sign, 0, NONE, 2, textOf(sign.length() / 2 + 1, sign + "00"));
        }
        value("the sign 0 in a text", 0, NONE, 2, textOf(2, "0000"));
        String[] bad = {"C080", "C1BF", "E08080", "E09FBF", "F0808080", "F08FBFBF", "EDA080", "EDBFBF", "F4908080", "F5808080", "F7BFBFBF",
            "F888808080", "FC8480808080"};
        for (String sign : bad) {
            inRoot("a name " + sign, 5, 5, Bytes.one(10), Bytes.hex(sign), Bytes.one(0));
            value("a text " + sign, 5, 11, 2, textOf(sign.length() / 2 + 1, sign + "00"));
        }
    }

    private static void partsOfTheForm() {
        says("DOCUMENT: an INT, its LENGTH (of all its bytes, these four and the last one too), ELEMENTS, a byte 0.");
        root("the least one", 0, NONE, Bytes.hex("05000000 00"));
        root("without the last one", 2, 0, Bytes.hex("04000000 00"));
        root("without the four", 2, 0, Bytes.hex("01000000 00"));
        root("with one element", 0, NONE, Bytes.hex("07000000 0A00 00"));
        says("NAME: bytes without 0, then a byte 0.");
        inRoot("empty", 0, NONE, Bytes.hex("0A00"));
        inRoot("long", 0, NONE, Bytes.el(10, "n".repeat(1993)));
        inRoot("a 0 ends it", 3, 7, Bytes.hex("0A 61 00 00"));
        says("TEXT: an INT, its LENGTH (of what stands behind it, the last 0 too), bytes (0s too), a byte 0.");
        value("empty", 0, NONE, 2, textOf(1, "00"));
        value("0s", 0, NONE, 2, textOf(5, "0061000000"));
        value("without the last 0", 3, 12, 2, textOf(1, "0000"));
        value("with the four", 1, 7, 2, textOf(5, "00"));
    }

    private static void utf8OfTheForm() {
        says("The bytes of NAMES and TEXTS are UTF-8.");
        inRoot("a name", 5, 5, Bytes.one(10), Bytes.hex("FF00"));
        value("the first name of 11", 5, 7, 11, Bytes.hex("FF00 6200"));
        value("the second name of 11", 5, 9, 11, Bytes.hex("6100 FF00"));
        for (int type : new int[] {2, 13, 14}) {
            value("the text of " + type, 5, 11, type, textOf(2, "FF00"));
        }
        value("the text of 12", 5, 11, 12, textOf(2, "FF00"), Bytes.zeros(12));
        value("the text of 15", 5, 15, 15, Bytes.i32(15), textOf(2, "FF00"), Bytes.doc());
        value("other bytes need not be, of 12", 0, NONE, 12, textOf(1, "00"), Bytes.hex("FF".repeat(12)));
        value("other bytes need not be, of 5", 0, NONE, 5, Bytes.i32(2), Bytes.hex("FFFFFF"));
        value("other bytes need not be, of 7", 0, NONE, 7, Bytes.hex("FF".repeat(12)));
        value("other bytes need not be, of 19", 0, NONE, 19, Bytes.hex("FF".repeat(16)));
    }

    private static void typesOfTheForm() {
        says("There are no others.");
        for (int type : NO_TYPES) {
            inRoot("type " + type, 3, 4, Bytes.one(type), Bytes.nm("a"), Bytes.zeros(16));
        }
        int judgedAsTypes = 0;
        for (int type = 0; type < 256; type++) {
            judgedAsTypes += EDGES.run("").tape(Bytes.doc(Bytes.one(type), Bytes.nm("a"), Bytes.one(0))).first("judge()")
                .number("fault(1)") == 4 ? 0 : 1;
        }
        EDGES.same("how many types there are", 21, judgedAsTypes);
    }

    private static void widthsOfTheForm() {
        width("1: eight bytes.", 8, 1);
        width("6: nothing.", 0, 6);
        width("7: twelve bytes.", 12, 7);
        width("8: a byte 0 or 1.", 1, 8);
        width("9: a LONG.", 8, 9);
        width("10: nothing.", 0, 10);
        width("16: an INT.", 4, 16);
        width("17, 18: a LONG.", 8, 17, 18);
        width("19: sixteen bytes.", 16, 19);
        width("127, 255: nothing.", 0, 127, 255);
    }

    private static void width(String sentence, int bytes, int... types) {
        says(sentence);
        for (int type : types) {
            value("just " + type, 0, NONE, type, Bytes.zeros(bytes));
            value("a byte more of " + type, 3, 7 + bytes, type, Bytes.zeros(bytes + 1));
            if (bytes > 0) {
                value("a byte fewer of " + type, 1, 7, type, Bytes.zeros(bytes - 1));
                value("nothing of " + type, 1, 7, type);
            }
        }
    }

    private static void namesAndTextsOfTheForm() {
        says("11: two NAMES.");
        value("both empty", 0, NONE, 11, Bytes.hex("0000"));
        value("one alone", 1, 8, 11, Bytes.hex("00"));
        value("three", 3, 9, 11, Bytes.hex("000000"));
        says("12: a TEXT, twelve bytes.");
        value("least", 0, NONE, 12, textOf(1, "00"), Bytes.zeros(12));
        value("eleven", 1, 12, 12, textOf(1, "00"), Bytes.zeros(11));
        value("thirteen", 3, 24, 12, textOf(1, "00"), Bytes.zeros(13));
        value("a text that is none", 2, 7, 12, textOf(0, "00"), Bytes.zeros(12));
        says("13, 14: a TEXT.");
        for (int type = 13; type <= 14; type++) {
            value("empty " + type, 0, NONE, type, textOf(1, "00"));
            value("LENGTH 0 of " + type, 2, 7, type, textOf(0, "00"));
        }
    }

    private static void binariesAndScopesOfTheForm() {
        says("5: an INT n, a byte (the KIND), n bytes; of KIND 2 these begin with an INT that is n - 4.");
        value("n is 0", 0, NONE, 5, Bytes.hex("00000000 00"));
        value("KIND 255", 0, NONE, 5, Bytes.hex("01000000 FF FF"));
        value("KIND 2, n is 4", 0, NONE, 5, Bytes.hex("04000000 02 00000000"));
        value("KIND 2, n is 3", 2, 7, 5, Bytes.hex("03000000 02 000000"));
        value("KIND 2, the INT is n", 2, 12, 5, Bytes.hex("05000000 02 05000000 00"));
        value("another KIND, the INT is n", 0, NONE, 5, Bytes.hex("05000000 82 05000000 00"));
        says("15: an INT, its LENGTH (of all bytes of the VALUE, these four too), a TEXT, a DOCUMENT.");
        byte[] inside = Bytes.join(Bytes.text("abcdef"), Bytes.doc());
        value("least", 0, NONE, 15, Bytes.i32(14), Bytes.text(""), Bytes.doc());
        value("more", 0, NONE, 15, Bytes.i32(20), inside);
        value("without the four", 1, 22, 15, Bytes.i32(16), inside);
        value("a byte fewer", 1, 22, 15, Bytes.i32(19), inside);
        value("a byte more", 1, 7, 15, Bytes.i32(21), inside);
    }

    private static void rowsOfTheForm() {
        says("4: a ROW, a DOCUMENT in which the NAMES are the decimals 0, 1, 2, .. in this order.");
        for (int count : new int[] {0, 1, 9, 10, 11, 99, 100, 101, 390}) {
            value(count + " elements", 0, NONE, 4, Bytes.row(10, new byte[count][0]));
        }
        value("from 1 on", 6, 12, 4, Bytes.doc(Bytes.el(10, "1")));
        value("0 twice", 6, 15, 4, Bytes.doc(Bytes.el(10, "0"), Bytes.el(10, "0")));
        value("1 left out", 6, 15, 4, Bytes.doc(Bytes.el(10, "0"), Bytes.el(10, "2")));
        value("another order", 6, 12, 4, Bytes.doc(Bytes.el(10, "1"), Bytes.el(10, "0")));
        value("an empty name", 6, 12, 4, Bytes.doc(Bytes.el(10, "")));
        value("00", 6, 12, 4, Bytes.doc(Bytes.el(10, "00")));
        value("a sign ahead", 6, 12, 4, Bytes.doc(Bytes.el(10, "+0")));
        byte[] ten = Bytes.join(elementsOf(Bytes.row(10, new byte[10][0])));
        value(": behind 9", 6, 42, 4, Bytes.doc(ten, Bytes.el(10, ":")));
        value("1 behind 9", 6, 42, 4, Bytes.doc(ten, Bytes.el(10, "1")));
        value("100 behind 9", 6, 42, 4, Bytes.doc(ten, Bytes.el(10, "100")));
        value("20 behind 9", 6, 42, 4, Bytes.doc(ten, Bytes.el(10, "20")));
        value("a row in a row", 6, 19, 4, Bytes.row(4, Bytes.doc(Bytes.el(10, "1"))));
        value("a document in a row", 0, NONE, 4, Bytes.row(3, Bytes.doc(Bytes.el(10, "1"))));
        value("a scope's document in a row", 0, NONE, 4, Bytes.row(15, Bytes.scoped("", Bytes.doc(Bytes.el(10, "1")))));
    }

    private static byte[] elementsOf(byte[] document) {
        return java.util.Arrays.copyOfRange(document, 4, document.length - 1);
    }

    /** A document in which others are, each in a value of the type, up to the depth; what is innermost is given. */
    private static byte[] around(int type, int depths, byte[] innermost) {
        byte[] d = innermost;
        for (int k = 1; k < depths; k++) {
            d = Bytes.doc(Bytes.el(type, type == 4 ? "0" : "", type == 15 ? Bytes.scoped("", d) : d));
        }
        return d;
    }

    private static void depths() {
        Run r = EDGES.says("Terms",
            "DEPTH: a DOCUMENT in no other one has 1 (a ROOT), one in an ELEMENT's VALUE (3, 4, 15) 1 more than that in which the ELEMENT is.");
        r.due("look(0, 1)", 1).due("total(0, 1)", 1);
        for (int type : new int[] {3, 4, 15}) {
            Run each = EDGES.run("in " + type).take(0, around(type, 3, Bytes.doc())).due("look(0, 1)", 1);
            each.due("in(0)", true).due("look(0, 1)", 2).due("in(0)", true).due("look(0, 1)", 3).due("total(0, 1)", 3);
        }
        says("At most 24.");
        root("3, 24", 0, NONE, around(3, 24, Bytes.doc()));
        root("3, 25", 8, 24 * 6, around(3, 25, Bytes.doc()));
        // The root is no row: it has one element of the type 4 with any name.
        root("4, 24", 0, NONE, around(4, 24, Bytes.doc()));
        root("4, 25", 8, 24 * 7, around(4, 25, Bytes.doc()));
        root("15, 24", 0, NONE, around(15, 24, Bytes.doc()));
        root("15, 25", 8, 24 * 15, around(15, 25, Bytes.doc()));
        root("two of 24", 0, NONE, Bytes.doc(Bytes.el(3, "", Bytes.nest(23)), Bytes.el(3, "", Bytes.nest(23))));
    }

    // ---- Terms 3

    private static void firstFault() {
        says("JUDGING goes from left to right; the first FAULT met is told, its number and its place.");
        inRoot("7 ahead of 3", 7, 7, Bytes.el(8, "a", Bytes.one(2)), Bytes.el(20, "b"));
        inRoot("3 ahead of 7", 3, 4, Bytes.el(20, "b"), Bytes.el(8, "a", Bytes.one(2)));
        root("an inner 4 ahead of an outer one", 4, 11, Bytes.hex("0D000000 036100 0500000001 01"));
        root("an outer 1 ahead of all that is inside", 1, 0, Bytes.hex("0E000000 036100 0500000001 01"));
    }

    private static void walls() {
        says("What is read has a WALL: bytes at that place and behind it are not there for it.");
        byte[] cut = Bytes.doc(Bytes.el(3, "d", Bytes.doc(Bytes.el(16, "a", Bytes.zeros(3)))), Bytes.el(2, "b", Bytes.text("there is more")));
        root("an inner document's wall", 1, 14, cut);
        // The fourth byte would make the INT one below 0, and stands at the wall.
        for (int type : new int[] {2, 3, 4, 5, 12, 13, 14, 15}) {
            byte[] document = Bytes.doc(Bytes.el(type, "a name that is long", Bytes.zeros(3)));
            document[document.length - 1] = -1;
            root("an INT of " + type, 1, 25, document);
        }
        says("(The TAPE's own WALL is how many bytes it has.)");
        root("an empty tape", 1, 0);
        root("three bytes", 1, 0, Bytes.hex("050000"));
        root("four bytes", 1, 0, Bytes.hex("05000000"));
        EDGES.run("bytes that were there").tape(Bytes.doc()).first("end(4)").due("judge()", 1).fault(1, 0);
        EDGES.run("bytes that were there").tape(Bytes.doc(Bytes.el(10, "a"))).first("end(7)").due("judge()", 1).fault(1, 0);
        says("n bytes (an INT, a LONG, and so on) at p: 1 at p, if p + n is above the WALL.");
        for (int[] pair : WIDTHS) {
            value("just " + pair[0], 0, NONE, pair[0], Bytes.zeros(pair[1]));
            value("a byte too few of " + pair[0], 1, 7, pair[0], Bytes.zeros(pair[1] - 1));
        }
    }

    private static void names() {
        says("A NAME at p: 1 at p, if no 0 stands ahead of the WALL;");
        inRoot("its 0 is the document's last byte", 1, 5, Bytes.one(10), Bytes.raw("abc"));
        inRoot("it begins at the wall", 1, 5, Bytes.one(10));
        inRoot("1 ahead of 5", 1, 5, Bytes.one(10), Bytes.hex("FF"));
        inRoot("of a value", 1, 9, Bytes.one(11), Bytes.hex("6100 62 00 63"));
        says("then 5, at the first byte of the first sign that is no UTF-8");
        String[] signs = {"80", "BF", "FE", "FF", "F8", "C2", "E1", "E180", "F1", "F180", "F18080", "C241", "C2C0", "E14180", "E18041", "E1C080",
            "E180C0", "F1418080",
            "F1804180", "F1808041", "F1C08080", "F180C080", "F18080C0", "C1BF", "E09FBF", "F08FBFBF", "EDA080", "F4908080"};
        for (String sign : signs) {
            inRoot("alone " + sign, 5, 5, Bytes.one(10), Bytes.hex(sign + "00"));
            inRoot("between others " + sign, 5, 15, Bytes.one(10), Bytes.hex("41 C3A4 E282AC F09F9880" + sign + "41 FF 00"));
        }
    }

    private static void rowNames() {
        says("(in a ROW: 6 at the NAME's first byte, behind its 1 and ahead of its 5, if it is not as it must be)");
        value("1 ahead of 6", 1, 12, 4, Bytes.doc(Bytes.one(10), Bytes.raw("7")));
        value("1, the name as it must be but for its 0", 1, 12, 4, Bytes.doc(Bytes.one(10), Bytes.raw("0")));
        value("6 ahead of 5", 6, 12, 4, Bytes.doc(Bytes.one(10), Bytes.hex("30FF00")));
        value("3 ahead of 6", 3, 11, 4, Bytes.doc(Bytes.one(20), Bytes.nm("7")));
        value("6 ahead of the value", 6, 12, 4, Bytes.doc(Bytes.el(8, "7", Bytes.one(2))));
        value("as it must be", 0, NONE, 4, Bytes.doc(Bytes.el(8, "0", Bytes.one(1))));
    }

    private static void texts() {
        says("A TEXT at p: its INT; 2 at p, if LENGTH is below 1; 1 at p, if it would go beyond the WALL; 4 at its last byte, if that is not 0; 5 as of NAMES (of the bytes ahead of the last one).");
        for (int type : new int[] {2, 13, 14}) {
            value("its INT cut", 1, 7, type, Bytes.zeros(3));
            for (int length : new int[] {0, -1, -4, LEAST, LEAST + 1}) {
                value("LENGTH " + length, 2, 7, type, textOf(length, "00"));
            }
            value("2 ahead of 1", 2, 7, type, textOf(0, ""));
            value("LENGTH 1", 0, NONE, type, textOf(1, "00"));
            for (int length : new int[] {2, 3, 256, GREATEST, GREATEST - 3, GREATEST - 11}) {
                value("LENGTH " + length, 1, 7, type, textOf(length, "00"));
            }
            value("LENGTH 1, nothing there", 1, 7, type, textOf(1, ""));
            value("1 ahead of 4", 1, 7, type, textOf(3, "0101"));
            value("last byte", 4, 12, type, textOf(2, "4101"));
            value("last byte of an empty one", 4, 11, type, textOf(1, "41"));
            value("4 ahead of 5", 4, 12, type, textOf(2, "FF80"));
            value("5", 5, 12, type, textOf(3, "41FF00"));
            value("5, the last 0 is no further byte", 5, 12, type, textOf(3, "41C200"));
            value("5, a 0 inside is no further byte", 5, 11, type, textOf(4, "C2008000"));
        }
    }

    private static void documents() {
        says("A DOCUMENT at p: 8 at p, if its DEPTH would be 25; its INT; 2 at p, if LENGTH is below 5; 1 at p, if it would go beyond the WALL.");
        root("8 ahead of its INT", 8, 144, around(3, 24, Bytes.doc(Bytes.el(3, ""))));
        root("8 ahead of 2", 8, 144, around(3, 24, Bytes.doc(Bytes.el(3, "", Bytes.i32(4)))));
        byte[] scope = Bytes.join(Bytes.i32(14), textOf(0, "00"), Bytes.doc());
        root("a scope's text ahead of its document's 8", 2, 148, around(3, 24, Bytes.doc(Bytes.el(15, "", scope))));
        root("its INT at depth 24", 1, 138, around(3, 23, Bytes.doc(Bytes.el(3, ""))));
        for (int length : new int[] {4, 1, 0, -1, -5, LEAST, LEAST + 4}) {
            root("LENGTH " + length, 2, 0, Bytes.i32(length), Bytes.zeros(1));
            value("inner LENGTH " + length, 2, 7, 3, Bytes.i32(length), Bytes.zeros(1));
        }
        root("2 ahead of 1", 2, 0, Bytes.i32(4));
        for (int length : new int[] {6, 7, 256, GREATEST, GREATEST - 4, GREATEST - 7}) {
            root("LENGTH " + length, 1, 0, Bytes.i32(length), Bytes.zeros(1));
            value("inner LENGTH " + length, 1, 7, 3, Bytes.i32(length), Bytes.zeros(1));
            value("row's LENGTH " + length, 1, 7, 4, Bytes.i32(length), Bytes.zeros(1));
        }
        value("its INT cut", 1, 7, 3, Bytes.zeros(3));
    }

    private static void elements() {
        says("Its last byte's place is the WALL of its ELEMENTS.");
        root("a name's 0 at the wall", 1, 5, Bytes.hex("07000000 0A61 00"));
        root("a value's last byte at the wall", 1, 6, Bytes.hex("07000000 0800 01"));
        root("a value's last byte ahead of the wall", 0, NONE, Bytes.hex("08000000 0800 01 00"));
        says("ELEMENTS one by one, until one would begin at this WALL: there 4 at it, if the byte is not 0.");
        root("without elements", 4, 4, Bytes.hex("05000000 0A"));
        root("behind an element", 4, 6, Bytes.hex("07000000 0A00 FF"));
        root("of an inner one", 4, 10, Bytes.hex("0C000000 0300 05000000 01 00"));
        root("4 ahead of 9", 4, 4, Bytes.hex("05000000 01 00"));
        says("Each: 3 at its TYPE, if that is none (0, too);");
        inRoot("0", 3, 4, Bytes.one(0));
        inRoot("0 behind an element", 3, 6, Bytes.hex("0A00 00"));
        inRoot("3 ahead of the name's 1", 3, 4, Bytes.one(20));
        for (int type : NO_TYPES) {
            inRoot("type " + type, 3, 7, Bytes.el(10, "a"), Bytes.el(type, "b"));
        }
    }

    private static void binaries() {
        says("Of 5: the INT; 2 at p, if n is below 0; 1 at p, if it would go beyond the WALL; of KIND 2: 2 at p, if n is below 4; 2 at p + 5, if the INT there is not n - 4.");
        value("the INT cut", 1, 7, 5, Bytes.zeros(3));
        for (int n : new int[] {-1, -4, -5, LEAST}) {
            value("n is " + n, 2, 7, 5, Bytes.i32(n), Bytes.zeros(1));
            value("2 ahead of the missing KIND, " + n, 2, 7, 5, Bytes.i32(n));
        }
        value("n is 0", 0, NONE, 5, Bytes.i32(0), Bytes.one(255));
        value("n is 0, no KIND", 1, 7, 5, Bytes.i32(0));
        value("just", 0, NONE, 5, Bytes.i32(3), Bytes.zeros(4));
        value("a byte too few", 1, 7, 5, Bytes.i32(3), Bytes.zeros(3));
        for (int n : new int[] {1, GREATEST, GREATEST - 4, GREATEST - 12}) {
            value("n is " + n, 1, 7, 5, Bytes.i32(n), Bytes.zeros(1));
        }
        for (int n = 0; n < 4; n++) {
            value("KIND 2 of " + n, 2, 7, 5, Bytes.i32(n), Bytes.one(2), Bytes.zeros(n));
        }
        value("1 ahead of KIND 2's 2", 1, 7, 5, Bytes.i32(3), Bytes.one(2), Bytes.zeros(2));
        value("KIND 2 of 4", 0, NONE, 5, Bytes.i32(4), Bytes.one(2), Bytes.i32(0));
        value("KIND 2 of 5", 0, NONE, 5, Bytes.i32(5), Bytes.one(2), Bytes.i32(1), Bytes.one(9));
        for (int inner : new int[] {0, 2, 5, -1, LEAST, GREATEST, 257}) {
            value("KIND 2 of 5 with " + inner, 2, 12, 5, Bytes.i32(5), Bytes.one(2), Bytes.i32(inner), Bytes.one(9));
        }
        value("KIND 1 has no INT", 0, NONE, 5, Bytes.i32(3), Bytes.one(1), Bytes.zeros(3));
        value("KIND 3 has no INT", 0, NONE, 5, Bytes.i32(4), Bytes.one(3), Bytes.i32(9));
    }

    private static void booleans() {
        says("Of 8: 7 at p, if the byte is neither 0 nor 1.");
        value("0", 0, NONE, 8, Bytes.one(0));
        value("1", 0, NONE, 8, Bytes.one(1));
        for (int b : new int[] {2, 3, 127, 128, 129, 254, 255}) {
            value(b + "", 7, 7, 8, Bytes.one(b));
        }
        value("no byte ahead of the wall", 1, 7, 8);
    }

    private static void scopes() {
        says("Of 15: the INT; 2 at p, if LENGTH is below 14; 1 at p, if it would go beyond the WALL;");
        byte[] least = Bytes.join(Bytes.text(""), Bytes.doc());
        value("the INT cut", 1, 7, 15, Bytes.zeros(3));
        for (int length : new int[] {13, 5, 4, 0, -1, LEAST, LEAST + 13}) {
            value("LENGTH " + length, 2, 7, 15, Bytes.i32(length), least);
        }
        value("2 ahead of 1", 2, 7, 15, Bytes.i32(13));
        value("LENGTH 14", 0, NONE, 15, Bytes.i32(14), least);
        for (int length : new int[] {15, 16, GREATEST, GREATEST - 6, GREATEST - 14}) {
            value("LENGTH " + length, 1, 7, 15, Bytes.i32(length), least);
        }
        value("1 ahead of what is inside", 1, 7, 15, Bytes.i32(15), Bytes.zeros(10));
    }

    private static void scopesEnds() {
        says("its end is the WALL of its TEXT and DOCUMENT; 2 at p, if the DOCUMENT doesn't end there.");
        byte[] more = Bytes.el(2, "b", Bytes.text("there is more"));
        inRoot("three bytes behind the text", 1, 18, Bytes.el(15, "a", Bytes.join(Bytes.i32(14), textOf(3, "414100"), Bytes.zeros(3))), more);
        inRoot("four bytes behind the text", 2, 17, Bytes.el(15, "a", Bytes.join(Bytes.i32(14), textOf(2, "4100"), Bytes.zeros(4))), more);
        inRoot("the text beyond it", 1, 11, Bytes.el(15, "a", Bytes.join(Bytes.i32(14), textOf(7, "00000000000000"))), more);
        inRoot("the text just to it", 1, 21, Bytes.el(15, "a", Bytes.join(Bytes.i32(14), textOf(6, "000000000000"))), more);
        inRoot("the document beyond it", 1, 16, Bytes.el(15, "a", Bytes.join(Bytes.i32(14), Bytes.text(""), Bytes.i32(6), Bytes.zeros(2))), more);
        value("the document a byte ahead of it", 2, 7, 15, Bytes.i32(15), Bytes.text(""), Bytes.doc(), Bytes.zeros(1));
        value("what is inside ahead of this 2", 4, 20, 15, Bytes.i32(15), Bytes.text(""), Bytes.hex("05000000 01 00"));
        value("the text's 2", 2, 11, 15, Bytes.i32(14), textOf(0, "00"), Bytes.doc());
        value("its document is no row", 0, NONE, 15, Bytes.scoped("", Bytes.doc(Bytes.el(10, "x"))));
        value("its document ends there", 0, NONE, 15, Bytes.scoped("f", Bytes.doc(Bytes.el(10, "x"))));
    }

    private static void partsOfValues() {
        says("A VALUE at p: as its parts, one behind the other.");
        value("11: the first name's 1", 1, 7, 11, Bytes.raw("ab"));
        value("11: the first name's 5 ahead of the second one's 1", 5, 7, 11, Bytes.hex("FF00"));
        value("11: the second name's 1", 1, 8, 11, Bytes.hex("00 61"));
        value("12: the text's 4 ahead of the twelve bytes' 1", 4, 11, 12, textOf(1, "41"));
        value("12: the twelve bytes' 1", 1, 12, 12, textOf(1, "00"));
        value("15: the text's 5 ahead of the document's 2", 5, 15, 15, Bytes.i32(15), textOf(2, "FF00"), Bytes.i32(4), Bytes.zeros(1));
        value("15: the document's 2 ahead of its own", 2, 16, 15, Bytes.i32(15), textOf(1, "00"), Bytes.i32(4), Bytes.zeros(2));
    }

    private static void wholeTape() {
        says("What must be the whole TAPE: 9 at the first byte behind it, if there is one.");
        root("none", 0, NONE, Bytes.doc());
        root("one", 9, 5, Bytes.doc(), Bytes.zeros(1));
        root("fifteen", 9, 5, Bytes.doc(), Bytes.zeros(15));
        root("behind elements", 9, 8, Bytes.doc(Bytes.el(10, "a")), Bytes.one(7));
        root("what is ahead of it", 3, 4, Bytes.doc(Bytes.el(20, "a")), Bytes.one(7));
    }
}
