/** Terms 5 and promises 25 to 31: each sentence with a boundary case of the sheet. */
public final class SheetEdgesTest {
    private static final Edges EDGES = new Edges("SheetEdgesTest");
    private static final int NONE = SpanShelves.NONE;
    private static final int LEAST = Integer.MIN_VALUE;
    private static final int GREATEST = Integer.MAX_VALUE;
    private static final byte[] ZERO = Bytes.i32(0);

    public static void main(String[] args) {
        openLengths();
        innermost();
        bigWithAllClosed();
        begin();
        write();
        writeInRow();
        writeRefused();
        open();
        openFaults();
        openDepth();
        close();
        lay();
        sheet();
        sheetAt();
        EDGES.finish();
    }

    private static Run begun(String what) {
        return EDGES.run(what).first("begin()");
    }

    private static Run opened(Run r, int type, byte[]... parts) {
        r.tape(parts).first("open(" + type + ")");
        return r;
    }

    /** A sheet of so many bytes whose root is open, with elements f and g of type 5 in it. */
    private static Run filled(String what, int size) {
        Run r = begun(what).tape(Bytes.nm("f"), Bytes.binary(0, Bytes.zeros(1000))).due("write(5)", 1012);
        return r.tape(Bytes.nm("g"), Bytes.binary(0, Bytes.zeros(size - 1012 - 8))).due("write(5)", size);
    }

    // ---- Terms 5

    private static void openLengths() {
        Run r = EDGES.says("Terms",
            "As long as a DOCUMENT is OPEN its LENGTH (and that of the VALUE of TYPE 15 in which it is) stands there as an INT 0, and its last byte 0 isn't there yet.");
        r.first("begin()").sheetHolds(ZERO).tape(Bytes.nm("s"), Bytes.text("f")).due("open(15)", 21);
        byte[] scope = Bytes.join(Bytes.hex("0F7300"), ZERO, Bytes.text("f"), ZERO);
        r.sheetHolds(ZERO, scope).tape(Bytes.nm("r")).due("open(4)", 28).sheetHolds(ZERO, scope, Bytes.hex("047200"), ZERO).tape()
            .due("write(10)", 31).tape(Bytes.text("")).due("open(15)", 47);
        byte[] inner = Bytes.join(Bytes.hex("0A3000"), Bytes.hex("0F3100"), ZERO, Bytes.text(""), ZERO);
        r.sheetHolds(ZERO, scope, Bytes.hex("047200"), ZERO, inner).due("close()", 3)
            .sheetHolds(ZERO, scope, Bytes.hex("047200"), ZERO, Bytes.hex("0A3000"), Bytes.el(15, "1", Bytes.scoped("", Bytes.doc())));
        byte[] row = Bytes.doc(Bytes.el(10, "0"), Bytes.el(15, "1", Bytes.scoped("", Bytes.doc())));
        r.due("close()", 2).sheetHolds(ZERO, scope, Bytes.el(4, "r", row)).due("close()", 1)
            .sheetHolds(ZERO, Bytes.el(15, "s", Bytes.scoped("f", Bytes.doc(Bytes.el(4, "r", row)))));
        r.due("close()", 0).sheetHolds(Bytes.doc(Bytes.el(15, "s", Bytes.scoped("f", Bytes.doc(Bytes.el(4, "r", row))))));
        Run s = begun("lengths above 255");
        opened(s, 15, Bytes.nm("s"), Bytes.text("")).tape(Bytes.nm("b"), Bytes.binary(0, Bytes.zeros(300))).due("write(5)", 20 + 308)
            .due("close()", 1).due("close()", 0);
        s.sheetHolds(Bytes.doc(Bytes.el(15, "s", Bytes.scoped("", Bytes.doc(Bytes.el(5, "b", Bytes.binary(0, Bytes.zeros(300))))))));
    }

    private static void innermost() {
        Run r = EDGES.says("Terms",
            "one after the other ELEMENTS come to the innermost DOCUMENT that is OPEN; a DOCUMENT that is opened is the innermost one until it is closed.").first("begin()");
        opened(r, 3, Bytes.nm("d")).tape(Bytes.nm("x")).due("write(10)", 14).due("close()", 1).tape(Bytes.nm("y")).due("write(10)", 18);
        opened(r, 4, Bytes.nm("r")).due("close()", 1).tape(Bytes.nm("z")).due("write(6)", 29).due("close()", 0);
        r.sheetHolds(Bytes.doc(Bytes.el(3, "d", Bytes.doc(Bytes.el(10, "x"))), Bytes.el(10, "y"), Bytes.el(4, "r", Bytes.doc()), Bytes.el(6, "z")));
    }

    private static void bigWithAllClosed() {
        EDGES.says("Terms", "BIG: with all that is OPEN closed it would have more than 2400 bytes.");
        filled("just, with the root's last byte", 2396).tape(Bytes.nm("n")).due("write(10)", 2399).tape(Bytes.nm("")).big("write(10)")
            .due("close()", 0).due("sheet(1)", 2400).due("lay(0)", 2400).due("look(0, 0)", 2400);
        filled("one too many", 2397).tape(Bytes.nm("n")).big("write(10)").tape(Bytes.nm("")).due("write(10)", 2399);
        // Twenty-three more that are open need twenty-three more last bytes: the sheet can have 2376 bytes.
        for (int more = 0; more < 2; more++) {
            Run r = filled("24 open", 2229 + more);
            for (int k = 2; k <= 24; k++) {
                r.tape(Bytes.nm("")).due("open(3)", 2229 + more + 6 * (k - 1));
            }
            if (more == 0) {
                r.tape(Bytes.nm("abcdefgh")).big("write(10)").tape(Bytes.nm("abcdefg")).due("write(10)", 2376);
            } else {
                r.tape(Bytes.nm("abcdefg")).big("write(10)").tape(Bytes.nm("abcdef")).due("write(10)", 2376);
            }
            r.tape(Bytes.nm("")).big("write(10)");
            for (int k = 23; k >= 0; k--) {
                r.due("close()", k);
            }
            r.due("sheet(1)", 2400).due("lay(3)", 2400).due("total(3, 1)", 24);
        }
        filled("opening, just", 2391).tape(Bytes.nm("n")).due("open(3)", 2398).due("close()", 1).due("close()", 0).due("sheet(1)", 2400);
        filled("opening, one too many", 2392).tape(Bytes.nm("n")).big("open(3)").tape(Bytes.nm("")).due("open(4)", 2398);
        filled("a scope, just", 2382).tape(Bytes.nm("n"), Bytes.text("")).due("open(15)", 2398).due("close()", 1).due("close()", 0)
            .due("lay(1)", 2400);
        filled("a scope, one too many", 2383).tape(Bytes.nm("n"), Bytes.text("")).big("open(15)").tape(Bytes.nm(""), Bytes.text(""))
            .due("open(15)", 2398);
        bigInRow();
    }

    private static void bigInRow() {
        for (int count : new int[] {9, 10, 11}) {
            int name = Integer.toString(count).length() + 1;
            for (int more = 0; more < 2; more++) {
                Run r = filled("a row of " + count, 2398 - 7 - Bytes.row(10, new byte[count][0]).length + 5 - 1 - name + more).tape(Bytes.nm("r"))
                    .first("open(4)", "end(0)");
                for (int k = 0; k < count; k++) {
                    r.first("write(10)");
                }
                if (more == 0) {
                    r.due("sheet(3)", count).due("write(10)", 2398).due("sheet(3)", count + 1);
                } else {
                    r.due("sheet(3)", count).big("write(10)");
                }
            }
        }
        Run s = filled("opening in a row, just", 2398 - 7 - 7).tape(Bytes.nm("r")).due("open(4)", 2391).tape().big("open(3)").due("close()", 1)
            .due("sheet(1)", 2392);
        s.due("close()", 0).due("lay(0)", 2393);
        filled("opening in a row, just", 2397 - 7 - 7).tape(Bytes.nm("r")).due("open(4)", 2390).tape().due("open(3)", 2397).due("close()", 2)
            .due("close()", 1).due("close()", 0).due("lay(0)", 2400);
    }

    // ---- promises 25 and 26

    private static void begin() {
        Run r = EDGES.says("Promise 25", "A new SHEET (what was there is gone): its ROOT is OPEN.");
        r.tape(Bytes.raw("ab")).due("begin()", null).sheet(1, 4, 1, 0).sheetHolds(ZERO).due("taped()", 2);
        r.tape(Bytes.nm("w")).due("write(10)", 7).due("begin()", null).sheet(1, 4, 1, 0).sheetHolds(ZERO);
        opened(opened(r, 3, Bytes.nm("d")), 4, Bytes.nm("r")).sheet(1, 18, 3, 0).due("begin()", null).sheet(1, 4, 1, 0).tape(Bytes.nm("n"))
            .due("write(10)", 7).due("close()", 0);
        r.due("begin()", null).sheet(1, 4, 1, 0).due("close()", 0).sheetHolds(Bytes.doc()).due("lay(0)", 5).due("begin()", null).sheet(1, 4, 1, 0);
        filled("a full one", 2399).due("begin()", null).sheet(1, 4, 1, 0).due("sheetAt(4)", NONE).tape(Bytes.nm("n")).due("write(10)", 7)
            .due("close()", 0).sheetHolds(Bytes.doc(Bytes.el(10, "n")));
    }

    private static void write() {
        Run r = EDGES.says("Promise 26",
            "all of it is a NAME (not in a ROW) and a VALUE of that type: an ELEMENT more in the innermost DOCUMENT that is OPEN: how many bytes the SHEET has.").first("begin()");
        r.tape(Bytes.nm("")).due("write(10)", 6).tape(Bytes.nm("n"), Bytes.i64(-1)).due("write(18)", 17).tape(Bytes.nm("d"), Bytes.nest(2))
            .due("write(3)", 32).sheet(1, 32, 1, 3).due("close()", 0);
        r.sheetHolds(Bytes.doc(Bytes.el(10, ""), Bytes.el(18, "n", Bytes.i64(-1)), Bytes.el(3, "d", Bytes.nest(2))));
        begun("the whole tape").tape(Bytes.nm("n".repeat(1999))).due("write(255)", 2005).sheet(1, 2005, 1, 1);
        begun("faults").tape().faulty("write(10)", 1, 0).tape(Bytes.raw("n")).faulty("write(10)", 1, 0).tape(Bytes.hex("6E C0 00"))
            .faulty("write(10)", 5, 1).tape(Bytes.nm("nn"), Bytes.zeros(3)).faulty("write(16)", 1, 3)
            .tape(Bytes.nm("nn"), Bytes.zeros(5)).faulty("write(16)", 9, 7).tape(Bytes.nm("nn"), Bytes.one(2)).faulty("write(8)", 7, 3)
            .tape(Bytes.nm("r"), Bytes.doc(Bytes.el(10, "1"))).faulty("write(4)", 6, 7)
            .tape(Bytes.nm("n")).due("write(10)", 7).fault(0, NONE);
    }

    private static void writeInRow() {
        Run r = opened(begun("in a row"), 4, Bytes.nm("r"));
        int size = 11;
        for (int k = 0; k <= 100; k++) {
            size += 2 + Integer.toString(k).length();
            r.due("write(10)", size).due("sheet(3)", k + 1);
        }
        r.due("close()", 1).due("close()", 0).sheetHolds(Bytes.doc(Bytes.el(4, "r", Bytes.row(10, new byte[101][0]))));
        Run s = opened(begun("names are left over in a row"), 4, Bytes.nm("r")).tape(Bytes.nm("0")).faulty("write(10)", 9, 0)
            .tape(Bytes.nm("0"), Bytes.i32(1)).faulty("write(16)", 9, 4).tape(Bytes.i32(1)).due("write(16)", 18);
        s.tape(Bytes.zeros(3)).faulty("write(16)", 1, 0).tape().faulty("write(16)", 1, 0).sheet(1, 18, 2, 1);
        opened(opened(begun("a document in a row"), 4, Bytes.nm("r")), 3).tape().faulty("write(10)", 1, 0).tape(Bytes.nm("0")).due("write(10)", 21);
        opened(opened(begun("a scope's document in a row"), 4, Bytes.nm("r")), 15, Bytes.text("")).tape().faulty("write(10)", 1, 0)
            .tape(Bytes.nm("n")).due("write(10)", 30);
        Run t = opened(begun("a row goes on behind what was in it"), 4, Bytes.nm("r"));
        opened(t, 4).due("write(10)", 21).due("close()", 2).due("write(10)", 25).due("close()", 1).due("close()", 0)
            .sheetHolds(Bytes.doc(Bytes.el(4, "r", Bytes.doc(Bytes.el(4, "0", Bytes.row(10, new byte[1][0])), Bytes.el(10, "1")))));
    }

    private static void writeRefused() {
        EDGES.says("Promise 26",
            "IllegalStateException: no DOCUMENT is OPEN; IllegalArgumentException: a FAULT; UnsupportedOperationException: BIG.");
        EDGES.run("no sheet").tape(Bytes.nm("n")).idle("write(10)", Run.STATE);
        begun("closed").first("close()").tape(Bytes.nm("n")).idle("write(10)", Run.STATE);
        begun("laid").first("close()", "lay(0)").tape(Bytes.nm("n")).idle("write(10)", Run.STATE);
        begun("a fault").tape(Bytes.nm("n"), Bytes.one(0)).faulty("write(10)", 9, 2);
        filled("BIG", 2399).tape(Bytes.nm("")).big("write(10)").tape(Bytes.nm(""), Bytes.binary(0, Bytes.zeros(900))).big("write(5)");
        // Its root has depth 1: what is written at depth 23 may have a document in it, but not one in another.
        Run r = begun("depth");
        for (int k = 2; k <= 23; k++) {
            opened(r, 3, Bytes.nm(""));
        }
        r.sheet(1, 136, 23, 0).tape(Bytes.nm("n"), Bytes.nest(2)).faulty("write(3)", 8, 8).tape(Bytes.nm("n"), Bytes.nest(1)).due("write(3)", 144)
            .tape(Bytes.nm("")).due("open(3)", 150);
        r.tape(Bytes.nm("n"), Bytes.doc()).faulty("write(3)", 8, 2).tape(Bytes.nm("n"), Bytes.scoped("", Bytes.doc())).faulty("write(15)", 8, 11)
            .tape(Bytes.nm("n")).faulty("write(4)", 8, 2).tape(Bytes.nm("n")).due("write(10)", 153);
    }

    // ---- promise 27

    private static void open() {
        Run r = EDGES.says("Promise 27",
            "all of it is a NAME (not in a ROW) and, of type 15, a TEXT: an ELEMENT more of that type, 3, 4 or 15, whose DOCUMENT is OPEN now: how many bytes the SHEET has.").first("begin()");
        r.tape(Bytes.nm("")).due("open(3)", 10).sheet(1, 10, 2, 0).tape(Bytes.nm("")).due("open(4)", 16).sheet(1, 16, 3, 0).tape(Bytes.text(""))
            .due("open(15)", 32).sheet(1, 32, 4, 0).tape(Bytes.nm("x"), Bytes.text("")).due("open(15)", 48);
        r.due("close()", 4).sheet(1, 49, 4, 1).due("close()", 3).sheet(1, 50, 3, 1).tape().due("open(3)", 57).due("close()", 3).sheet(1, 58, 3, 2)
            .due("close()", 2).sheet(1, 59, 2, 1).due("close()", 1).due("close()", 0);
        byte[] scope = Bytes.scoped("", Bytes.doc(Bytes.el(15, "x", Bytes.scoped("", Bytes.doc()))));
        r.sheetHolds(Bytes.doc(Bytes.el(3, "", Bytes.doc(Bytes.el(4, "", Bytes.doc(Bytes.el(15, "0", scope), Bytes.el(3, "1", Bytes.doc())))))));
        begun("the whole tape").tape(Bytes.nm("n".repeat(1999))).due("open(4)", 4 + 2001 + 4).sheet(1, 2009, 2, 0);
        begun("the whole tape").tape(Bytes.nm(""), Bytes.text("t".repeat(1994))).due("open(15)", 4 + 2001 + 8).sheet(1, 2013, 2, 0);
        EDGES.says("Promise 27", "Exceptions as of write();");
        EDGES.run("no sheet").tape(Bytes.nm("n")).idle("open(3)", Run.STATE);
        begun("closed").first("close()").tape(Bytes.nm("n")).idle("open(3)", Run.STATE);
        begun("laid").first("close()", "lay(0)").tape(Bytes.nm("n")).idle("open(3)", Run.STATE);
        filled("BIG", 2399).tape(Bytes.nm("")).big("open(3)").tape(Bytes.nm(""), Bytes.text("t".repeat(900))).big("open(15)");
    }

    private static void openFaults() {
        for (int type : new int[] {3, 4}) {
            begun("faults").tape().faulty("open(" + type + ")", 1, 0).tape(Bytes.raw("n")).faulty("open(" + type + ")", 1, 0)
                .tape(Bytes.hex("6E8000")).faulty("open(" + type + ")", 5, 1).tape(Bytes.nm("n"), Bytes.zeros(1))
                .faulty("open(" + type + ")", 9, 2).tape(Bytes.nm("n"), Bytes.text("")).faulty("open(" + type + ")", 9, 2)
                .tape(Bytes.nm("n"), Bytes.doc()).faulty("open(" + type + ")", 9, 2);
            opened(begun("faults in a row"), 4, Bytes.nm("r")).tape(Bytes.nm("0")).faulty("open(" + type + ")", 9, 0).tape()
                .due("open(" + type + ")", 18);
        }
        begun("a scope's faults").tape(Bytes.nm("n")).faulty("open(15)", 1, 2).tape(Bytes.nm("n"), ZERO).faulty("open(15)", 2, 2)
            .tape(Bytes.nm("n"), Bytes.i32(2), Bytes.zeros(1)).faulty("open(15)", 1, 2).tape(Bytes.nm("n"), Bytes.i32(1), Bytes.one(1))
            .faulty("open(15)", 4, 6).tape(Bytes.nm("n"), Bytes.i32(2), Bytes.hex("FF00")).faulty("open(15)", 5, 6)
            .tape(Bytes.nm("n"), Bytes.text("f"), Bytes.zeros(1)).faulty("open(15)", 9, 8).tape().faulty("open(15)", 1, 0);
        opened(begun("a scope's faults in a row"), 4, Bytes.nm("r")).tape().faulty("open(15)", 1, 0).tape(Bytes.nm("0"), Bytes.text(""))
            .faulty("open(15)", 1, 0).tape(Bytes.text("")).due("open(15)", 27);
    }

    private static void openDepth() {
        Run r = EDGES.says("Promise 27", "FAULT 8, at the number of the TAPE's bytes, behind all others: its DEPTH would be 25.").first("begin()");
        for (int k = 2; k <= 24; k++) {
            r.tape(Bytes.nm("")).due("open(3)", 4 + 6 * (k - 1)).due("sheet(2)", k);
        }
        r.tape(Bytes.nm("")).faulty("open(3)", 8, 1).tape(Bytes.nm("abc")).faulty("open(4)", 8, 4).tape(Bytes.nm("abc"), Bytes.text("f"))
            .faulty("open(15)", 8, 10);
        r.tape().faulty("open(3)", 1, 0).tape(Bytes.nm("abc"), Bytes.zeros(2)).faulty("open(3)", 9, 4).tape(Bytes.hex("FF00")).faulty("open(4)", 5, 0)
            .tape(Bytes.nm("abc")).faulty("open(15)", 1, 4).tape(Bytes.nm("abc")).faulty("open(5)", 3, 0);
        r.tape(Bytes.nm("n")).due("write(10)", 145).due("close()", 23).tape(Bytes.nm("")).due("open(3)", 152).tape(Bytes.nm(""))
            .faulty("open(3)", 8, 1);
        Run s = begun("in a row, nothing on the tape");
        opened(s, 4, Bytes.nm(""));
        for (int k = 3; k <= 24; k++) {
            opened(s, 4);
        }
        s.due("sheet(2)", 24).tape().faulty("open(4)", 8, 0).tape(Bytes.text("")).faulty("open(15)", 8, 5);
        Run t = filled("8 ahead of BIG", 2399 - 23 * 7);
        for (int k = 2; k <= 24; k++) {
            opened(t, 3, Bytes.nm(""));
        }
        t.due("sheet(1)", 2399 - 23).due("sheet(2)", 24).tape(Bytes.nm("")).faulty("open(3)", 8, 1).tape(Bytes.nm("")).big("write(10)");
    }

    // ---- promises 28 to 31

    private static void close() {
        Run r = EDGES.says("Promise 28", "The innermost DOCUMENT that is OPEN ends: how many are OPEN still.").first("begin()").due("close()", 0)
            .sheet(2, 5, 0, 0).sheetHolds(Bytes.doc());
        r.first("begin()");
        for (int k = 2; k <= 24; k++) {
            opened(r, 3, Bytes.nm(""));
        }
        for (int k = 23; k >= 0; k--) {
            r.due("close()", k).due("sheet(2)", k);
        }
        r.sheetHolds(Bytes.nest(24));
        EDGES.says("Promise 28", "IllegalStateException: none is.");
        EDGES.run("no sheet").idle("close()", Run.STATE);
        begun("closed").due("close()", 0).idle("close()", Run.STATE);
        begun("laid").first("close()", "lay(0)").idle("close()", Run.STATE);
    }

    private static void lay() {
        Run r = EDGES.says("Promise 29",
            "The SHEET, in which no DOCUMENT is OPEN any more, becomes the DOCUMENT of a shelf, and is no more: how many bytes.");
        for (int s = 0; s < 4; s++) {
            r.first("begin()").tape(Bytes.nm("n"), Bytes.i32(s)).due("write(16)", 11).due("close()", 0).due("lay(" + s + ")", 12)
                .holds(s, Bytes.doc(Bytes.el(16, "n", Bytes.i32(s)))).sheet(0, 0, 0, 0).due("sheetAt(0)", NONE).due("look(" + s + ", 5)", 0);
        }
        r.first("begin()", "close()").due("lay(3)", 5).holds(3, Bytes.doc()).due("look(3, 5)", NONE).due("number(2)", 2);
        filled("a full one", 2399).due("close()", 0).due("lay(2)", 2400).due("look(2, 0)", 2400).due("look(2, 2)", 2).due("byteAt(2, 2399)", 0)
            .due("byteAt(2, 0)", 0x60);
        EDGES.says("Promise 29", "IllegalStateException: there is no SHEET, or a DOCUMENT is OPEN.");
        EDGES.run("no sheet").take(0, Bytes.doc(Bytes.el(10, "a"))).idle("lay(0)", Run.STATE);
        begun("the root is open").idle("lay(0)", Run.STATE);
        opened(begun("two are open"), 3, Bytes.nm("d")).idle("lay(0)", Run.STATE).due("close()", 1).idle("lay(0)", Run.STATE).due("close()", 0)
            .due("lay(0)", 13);
        begun("laid").first("close()", "lay(1)").idle("lay(1)", Run.STATE).idle("lay(0)", Run.STATE);
        begun("no shelf").first("close()").idle("lay(4)", Run.NO_SHELF).idle("lay(-1)", Run.NO_SHELF).due("lay(0)", 5).idle("lay(4)", Run.NO_SHELF);
    }

    private static void sheet() {
        Run r = EDGES.says("Promise 30",
            "what 0: 0 there is none, 1 a DOCUMENT is OPEN, 2 none is any more; 1 how many bytes it has, 2 how many DOCUMENTS are OPEN, 3 how many ELEMENTS the innermost OPEN one has (0 without one).");
        r.sheet(0, 0, 0, 0).first("begin()").sheet(1, 4, 1, 0).tape(Bytes.nm("a")).due("write(10)", 7).sheet(1, 7, 1, 1);
        opened(r, 3, Bytes.nm("d")).sheet(1, 14, 2, 0).tape(Bytes.nm("b")).due("write(10)", 17).sheet(1, 17, 2, 1).due("close()", 1)
            .sheet(1, 18, 1, 2).tape(Bytes.raw("b")).faulty("write(10)", 1, 0).sheet(1, 18, 1, 2);
        r.due("close()", 0).sheet(2, 19, 0, 0).due("lay(0)", 19).sheet(0, 0, 0, 0);
        EDGES.says("Promise 30", "NONE for another what; 0 without a SHEET.");
        for (int what : new int[] {-1, 4, 5, LEAST, GREATEST}) {
            EDGES.run("").due("sheet(" + what + ")", NONE).first("begin()").due("sheet(" + what + ")", NONE).first("close()")
                .due("sheet(" + what + ")", NONE).first("lay(0)").due("sheet(" + what + ")", NONE);
        }
        EDGES.run("without one").sheet(0, 0, 0, 0).first("begin()", "close()", "lay(2)").sheet(0, 0, 0, 0);
    }

    private static void sheetAt() {
        Run r = EDGES.says("Promise 31", "Byte i of the SHEET; NONE if there is none such.");
        int[] outside = {-1, 2399, 2400, LEAST, GREATEST};
        for (int i : outside) {
            r.due("sheetAt(" + i + ")", NONE);
        }
        r.due("sheetAt(0)", NONE).first("begin()").due("sheetAt(0)", 0).due("sheetAt(3)", 0).due("sheetAt(4)", NONE).tape(Bytes.nm("\u00ff"))
            .due("write(255)", 8).due("sheetAt(4)", 255).due("sheetAt(5)", 0xC3).due("sheetAt(7)", 0).due("sheetAt(8)", NONE);
        for (int i : outside) {
            r.due("sheetAt(" + i + ")", NONE);
        }
        r.due("close()", 0).due("sheetAt(0)", 9).due("sheetAt(8)", 0).due("sheetAt(9)", NONE).due("lay(0)", 9).due("sheetAt(0)", NONE)
            .due("sheetAt(8)", NONE);
        filled("a full one", 2399).due("sheetAt(2398)", 0).due("sheetAt(2399)", NONE).due("close()", 0).due("sheetAt(2399)", 0)
            .due("sheetAt(2400)", NONE).due("sheetAt(0)", 0x60).due("sheetAt(1)", 9);
    }
}
