/** What holds for all calls (the words behind Terms 5), and promises 1 to 6 and 32: each sentence with a boundary case. */
public final class TapeEdgesTest {
    private static final Edges EDGES = new Edges("TapeEdgesTest");
    private static final int NONE = SpanShelves.NONE;
    private static final int LEAST = Integer.MIN_VALUE;
    private static final int GREATEST = Integer.MAX_VALUE;
    private static final int[] NO_SHELVES = {-1, 4, LEAST, GREATEST};
    private static final int[] NO_TYPES = {-1, 0, 20, 126, 128, 254, 256, 256 + 16, -255, LEAST, GREATEST};
    private static final byte[] FIRST = Bytes.doc(Bytes.el(16, "a", Bytes.i32(7)), Bytes.el(3, "d", Bytes.doc(Bytes.el(10, "k"))));
    private static final byte[] SPOILED = Bytes.hex("0500000001");

    public static void main(String[] args) {
        calls();
        tapeUsedUp();
        tapeUsedUpByEach();
        tapeLeft();
        throwsLeaveAll();
        bigLeavesAll();
        firstException();
        typesThatAreNone();
        newObject();
        feed();
        end();
        judge();
        faultOfEach();
        faultStays();
        faultWhat();
        take();
        taped();
        EDGES.finish();
    }

    /**
     * Shelf 0: a number and a document, at the number. 1: a row, the cursor in it. 2: empty. 3: a text. A sheet is
     * open, a change has been made, and the latest fault is 4 at 4. The tape has the bytes given.
     */
    private static Run stage(String what, byte[]... parts) {
        Run r = EDGES.run(what).take(0, FIRST).take(1, Bytes.doc(Bytes.el(4, "r", Bytes.row(10, new byte[2][0])))).first("in(1)");
        r.take(3, Bytes.doc(Bytes.el(2, "t", Bytes.text("abc")))).first("begin()", "set(0, 16, 8)", "set(0, 16, 7)");
        r.tape(Bytes.nm("w")).due("write(10)", 7);
        return r.tape(SPOILED).due("judge()", 4).tape(parts);
    }

    private static void calls() {
        Run r = EDGES.says("What it is", "An object is used for at most 512 calls after it has been made; what later calls answer is free.");
        r.take(0, Bytes.doc(Bytes.el(18, "n", Bytes.i64(0))));
        for (int k = 5; k < 512; k++) {
            r.due("set(0, 18, " + k + ")", 16);
        }
        r.due("number(0)", 511);
    }

    // ---- the words behind Terms 5

    private static void tapeUsedUp() {
        EDGES.says("Terms", "\"Uses the TAPE up\": it is empty behind the call, whatever the call does.");
        stage("", Bytes.doc()).due("take(2)", 5).due("taped()", 0);
        stage("", Bytes.raw("d")).due("find(0)", 1).due("taped()", 0);
        stage("", Bytes.raw("q")).idle("find(0)", NONE);
        stage("", Bytes.raw("d\0k")).due("path(0)", 2).due("taped()", 0);
        stage("", Bytes.raw("d\0q")).idle("path(0)", 1);
        stage("", Bytes.i32(1)).due("value(0, 16)", FIRST.length).due("taped()", 0);
        stage("", Bytes.nm("n")).due("put(0, 0, 10)", FIRST.length + 3).due("taped()", 0);
        stage("", Bytes.nm("n")).due("name(0)", FIRST.length).due("taped()", 0);
        stage("", Bytes.nm("n")).due("write(10)", 10).due("taped()", 0);
        stage("", Bytes.nm("n")).due("open(3)", 14).due("taped()", 0);
        stage("an empty one").faulty("take(0)", 1, 0);
        stage("an empty one").idle("find(0)", NONE);
    }

    private static void tapeUsedUpByEach() {
        usedUp("Promise 6", FIRST, "take(0)", "take(4)");
        usedUp("Promise 6", SPOILED, "take(0)");
        usedUp("Promise 8", Bytes.raw("d"), "find(0)", "find(1)", "find(2)", "find(4)");
        usedUp("Promise 9", Bytes.raw("d\0k"), "path(0)", "path(1)", "path(2)", "path(4)");
        usedUp("Promise 17", Bytes.i32(1), "value(0, 16)", "value(4, 16)", "value(2, 16)", "value(0, 10)", "value(0, 99)");
        usedUp("Promise 18", Bytes.nm("n"), "put(0, 0, 10)", "put(4, 0, 10)", "put(0, 9, 10)", "put(0, 0, 16)", "put(0, 0, 99)");
        usedUp("Promise 19", Bytes.nm("n"), "name(0)", "name(4)", "name(2)", "name(1)");
        usedUp("Promise 19", Bytes.raw("n"), "name(0)");
        usedUp("Promise 26", Bytes.nm("n"), "write(10)", "write(16)", "write(99)");
        usedUp("Promise 27", Bytes.nm("n"), "open(3)", "open(15)", "open(99)");
    }

    private static void usedUp(String promise, byte[] tape, String... calls) {
        EDGES.says(promise, "Uses the TAPE up");
        for (String call : calls) {
            stage("", tape).due("taped()", tape.length).first(call).due("taped()", 0);
        }
    }

    private static void tapeLeft() {
        String[] others = {"judge()", "fault(0)", "go(0, 1)", "in(0)", "out(1)", "look(0, 0)", "byteAt(0, 0)", "number(0)", "total(0, 0)",
            "kinds(0, 3)", "drop(0)", "move(0, 1)",
            "copy(0, 3)", "set(0, 9, 1)", "latest(0)", "begin()", "close()", "sheet(0)", "sheetAt(0)", "go(4, 0)", "drop(2)", "lay(0)",
                "set(0, 99, 1)", "copy(0, 2)", "number(1)"};
        for (String call : others) {
            stage(call, Bytes.raw("abc")).first(call).due("taped()", 3);
        }
        stage("", Bytes.raw("abc")).first("close()").due("lay(0)", 8).due("taped()", 3);
    }

    private static void throwsLeaveAll() {
        EDGES.says("Terms", "All else a call that throws leaves as it was (but fault()).");
        for (int s : NO_SHELVES) {
            String[] calls = {"take(" + s + ")", "go(" + s + ", 0)", "find(" + s + ")", "path(" + s + ")", "in(" + s + ")", "out(" + s + ")",
                "look(" + s + ", 0)", "byteAt(" + s + ", 0)",
                "number(" + s + ")", "total(" + s + ", 0)", "kinds(" + s + ", 10)", "value(" + s + ", 10)", "put(" + s + ", 0, 10)",
                    "name(" + s + ")", "drop(" + s + ")", "move(" + s + ", 0)",
                "copy(" + s + ", 0)", "copy(0, " + s + ")", "set(" + s + ", 16, 1)", "lay(" + s + ")"};
            for (String call : calls) {
                stage("", Bytes.nm("n")).idle(call, Run.NO_SHELF);
            }
        }
        String[] atNone = {"number(2)", "value(2, 10)", "put(2, 1, 10)", "name(2)", "drop(2)", "move(2, 0)", "copy(2, 0)", "copy(0, 2)",
            "set(2, 16, 1)"};
        for (String call : atNone) {
            stage("", Bytes.nm("n")).idle(call, Run.NO_ELEMENT);
        }
        stage("").idle("number(3)", Run.STATE).tape(Bytes.nm("n")).idle("name(1)", Run.STATE).idle("lay(0)", Run.STATE).first("close()")
            .idle("close()", Run.STATE);
        stage("").first("close()").tape(Bytes.nm("n")).idle("write(10)", Run.STATE).tape(Bytes.nm("n")).idle("open(3)", Run.STATE);
        stage("", SPOILED).faulty("take(0)", 4, 4).tape(Bytes.zeros(3)).faulty("value(0, 16)", 1, 0).tape(Bytes.raw("n"))
            .faulty("put(0, 1, 10)", 1, 0);
        stage("", Bytes.hex("61FF00")).faulty("name(0)", 5, 1).faulty("set(0, 8, 2)", 7, 0).tape(Bytes.hex("6100FF")).faulty("write(8)", 7, 2);
        stage("", Bytes.hex("6100FF")).faulty("open(3)", 9, 2).faulty("set(0, 15, 2)", 3, 0);
        stage("").take(2, Bytes.nest(24)).first("in(0)", "out(0)", "go(0, 1)", "in(0)").faulty("copy(0, 2)", 8, 0);
    }

    private static void bigLeavesAll() {
        Run r = EDGES.run("BIG").fill(1, 2396, Bytes.el(10, "a"), Bytes.el(3, "d", Bytes.doc(Bytes.el(10, "k")))).take(0, FIRST);
        r.tape(Bytes.doc(Bytes.el(2, "t", Bytes.text("a")))).due("take(2)", 14).first("go(1, 1)", "in(1)", "begin()");
        r.tape(Bytes.i64(1)).big("value(1, 18)").tape(Bytes.nm("abc")).big("put(1, 1, 10)").tape(Bytes.nm("kkkkkk")).big("name(1)");
        r.big("copy(1, 2)").big("set(1, 18, 1)");
        Run s = EDGES.run("BIG").take(0, FIRST).first("begin()").tape(Bytes.nm("f"), Bytes.binary(0, Bytes.zeros(1900))).due("write(5)", 1912);
        s.tape(Bytes.nm("g"), Bytes.binary(0, Bytes.zeros(472))).due("write(5)", 2392).tape(Bytes.nm("n"), Bytes.i64(1)).big("write(9)")
            .tape(Bytes.nm("n")).big("open(3)");
    }

    private static void firstException() {
        EDGES.says("Terms", "Of several exceptions the first one told is thrown; a FAULT is an IllegalArgumentException.");
        stage("no shelf, a fault", SPOILED).idle("take(4)", Run.NO_SHELF).tape(SPOILED).idle("value(4, 99)", Run.NO_SHELF).tape(SPOILED)
            .idle("put(4, -1, 99)", Run.NO_SHELF);
        stage("no shelf, a fault", Bytes.raw("n")).idle("name(4)", Run.NO_SHELF).idle("set(4, 99, 2)", Run.NO_SHELF);
        stage("no element, a fault", SPOILED).idle("value(2, 99)", Run.NO_ELEMENT).tape(SPOILED).idle("put(2, 1, 99)", Run.NO_ELEMENT).tape(SPOILED)
            .idle("put(0, 3, 10)", Run.NO_ELEMENT);
        stage("no element, a fault", Bytes.raw("n")).idle("name(2)", Run.NO_ELEMENT).idle("set(2, 99, 2)", Run.NO_ELEMENT)
            .idle("set(2, 8, 2)", Run.NO_ELEMENT);
        stage("a row, a fault", Bytes.raw("n")).idle("name(1)", Run.STATE);
        stage("no element, in a row", Bytes.nm("n")).first("drop(1)", "drop(1)").idle("name(1)", Run.NO_ELEMENT);
        stage("no shelf, no element").idle("copy(2, 4)", Run.NO_SHELF).idle("copy(4, 2)", Run.NO_SHELF).idle("move(4, 9)", Run.NO_SHELF)
            .idle("number(4)", Run.NO_SHELF);
        stage("no element there, too deep").take(2, Bytes.nest(24)).first("drop(3)").idle("copy(3, 2)", Run.NO_ELEMENT)
            .idle("copy(2, 3)", Run.NO_ELEMENT);
        stage("no shelf, no sheet to lay").idle("lay(4)", Run.NO_SHELF).first("close()", "lay(2)").idle("lay(-1)", Run.NO_SHELF);
        stage("nothing open, a fault", Bytes.raw("n")).first("close()").idle("write(99)", Run.STATE).tape(Bytes.raw("n")).idle("open(99)", Run.STATE);
        Run r = EDGES.run("a fault, BIG").fill(0, 2400, Bytes.el(10, "a"));
        r.tape(Bytes.nm("bb"), Bytes.one(0)).faulty("name(0)", 9, 3).tape(Bytes.one(2)).faulty("value(0, 8)", 7, 0).tape(Bytes.nm("b"))
            .faulty("put(0, 0, 16)", 1, 2);
        r.faulty("set(0, 8, 2)", 7, 0).faulty("set(0, 19, 2)", 3, 0);
        Run s = EDGES.run("too deep, BIG").fill(1, 2400, Bytes.el(3, "a", Bytes.nest(2))).take(0, Bytes.nest(24)).first("in(1)")
            .faulty("copy(1, 0)", 8, 0);
        s.first("begin()").tape(Bytes.nm("f"), Bytes.binary(0, Bytes.zeros(1900))).due("write(5)", 1912)
            .tape(Bytes.nm("g"), Bytes.binary(0, Bytes.zeros(479)), Bytes.one(0));
        s.faulty("write(5)", 9, 486).tape(Bytes.nm("s"), Bytes.text("t".repeat(500)), Bytes.one(0)).faulty("open(15)", 9, 507);
    }

    private static void typesThatAreNone() {
        EDGES.says("Terms", "A type that is no TYPE (or none of those told): FAULT 3, place 0, ahead of what the TAPE has.");
        for (int type : NO_TYPES) {
            stage("", Bytes.hex("FF")).faulty("value(0, " + type + ")", 3, 0).tape(Bytes.hex("FF00")).faulty("put(0, 0, " + type + ")", 3, 0)
                .tape(Bytes.hex("FF")).faulty("write(" + type + ")", 3, 0);
            stage("").faulty("open(" + type + ")", 3, 0).faulty("set(0, " + type + ", 2)", 3, 0).faulty("value(0, " + type + ")", 3, 0);
        }
        for (int type = 1; type <= 255; type = type == 19 ? 127 : type == 127 ? 255 : type + 1) {
            boolean opens = type == 3 || type == 4 || type == 15;
            boolean sets = type == 1 || type == 8 || type == 9 || type >= 16 && type <= 18;
            if (!opens) {
                stage("", Bytes.hex("FF")).faulty("open(" + type + ")", 3, 0);
            }
            if (!sets) {
                stage("", Bytes.hex("FF")).faulty("set(0, " + type + ", 1)", 3, 0);
            }
        }
        for (int type : new int[] {3, 4, 15}) {
            stage("told, with a fault", Bytes.hex("FF00")).faulty("open(" + type + ")", 5, 0);
        }
    }

    // ---- promises

    private static void newObject() {
        Run r = EDGES.says("Promise 1", "As told above; an empty TAPE, no SHEET.");
        for (int s = 0; s < 4; s++) {
            r.holds(s, Bytes.doc()).looks(s, 5, 1, 0, 0, 0, NONE, NONE, NONE, NONE, NONE, NONE);
        }
        r.due("taped()", 0).sheet(0, 0, 0, 0).due("sheetAt(0)", NONE).latest(NONE, NONE, NONE, NONE).fault(0, NONE);
        EDGES.run("the tape").due("judge()", 1);
        EDGES.run("the sheet").idle("close()", Run.STATE).idle("write(10)", Run.STATE).idle("open(3)", Run.STATE).idle("lay(0)", Run.STATE);
    }

    private static void feed() {
        Run r = EDGES.says("Promise 2", "Twenty bytes come behind the TAPE, four of each number, its highest first: how many it has.");
        r.due("feed(335544320, 83888128, 129, -2105310075, -2037907712)", 20).due("take(0)", 20);
        r.holds(0, Bytes.hex("14000000 05000800 00000081 82838485 8687FF00"));
        r.due("feed(0, 0, 0, 0, 0)", 20).due("end(0)", true).due("feed(83886080, 0, 0, 0, 0)", 20).due("end(3)", true)
            .due("feed(0, -1, -1, -1, -1)", 23).due("end(5)", true).due("take(0)", 5);
        Run s = EDGES.says("Promise 2", "NONE, changing nothing, if there would be more than 2000.");
        for (int k = 1; k <= 100; k++) {
            s.due("feed(1, 2, 3, 4, 5)", 20 * k);
        }
        s.idle("feed(1, 2, 3, 4, 5)", NONE).due("taped()", 2000).due("end(1981)", true).idle("feed(1, 2, 3, 4, 5)", NONE).due("end(1980)", true)
            .due("feed(1, 2, 3, 4, 5)", 2000);
        Run t = EDGES.run("its bytes stay").tape(Bytes.doc(Bytes.el(5, "", Bytes.binary(0, Bytes.zeros(1969)))));
        t.due("taped()", 1981).idle("feed(-1, -1, -1, -1, -1)", NONE).due("judge()", 0).due("take(0)", 1981);
    }

    private static void end() {
        Run r = EDGES.says("Promise 3", "The TAPE has its first n bytes alone: true.");
        r.due("end(0)", true).tape(Bytes.doc(), Bytes.zeros(3)).due("end(8)", true).due("judge()", 9).due("end(5)", true).due("judge()", 0)
            .due("taped()", 5).due("end(0)", true).due("taped()", 0);
        Run s = EDGES.says("Promise 3", "False, changing nothing, if it has fewer, or n is below 0.");
        s.idle("end(1)", false).idle("end(-1)", false).tape(Bytes.doc());
        for (int n : new int[] {6, 20, 2000, 2001, GREATEST, -1, -5, LEAST}) {
            s.idle("end(" + n + ")", false);
        }
        s.due("judge()", 0).due("taped()", 5);
    }

    private static void judge() {
        Run r = EDGES.says("Promise 4", "The TAPE is judged as a DOCUMENT (a ROOT), and stays: the FAULT's number, or 0.");
        r.due("judge()", 1).tape(Bytes.doc()).due("judge()", 0).due("judge()", 0).due("taped()", 5).holds(0, Bytes.doc()).tape(SPOILED)
            .due("judge()", 4).due("judge()", 4).due("taped()", 5);
        // A root is no row and has depth 1, wherever cursors are and whatever is open.
        Run s = EDGES.run("a root").take(0, Bytes.nest(24)).first("begin()").tape(Bytes.nm("r")).due("open(4)", 11);
        s.tape(Bytes.doc(Bytes.el(10, "x"))).due("judge()", 0).tape(Bytes.nest(24)).due("judge()", 0).tape(Bytes.nest(25)).due("judge()", 8);
    }

    private static void faultOfEach() {
        EDGES.says("Promise 5", "what 0 the FAULT's number (0 without one), 1 its place (NONE without one).");
        stage("", Bytes.doc()).fault(4, 4).due("judge()", 0).fault(0, NONE);
        stage("", Bytes.doc()).due("take(0)", 5).fault(0, NONE);
        stage("", Bytes.i32(1)).due("value(0, 16)", FIRST.length).fault(0, NONE);
        stage("", Bytes.nm("n")).due("put(0, 2, 10)", FIRST.length + 3).fault(0, NONE);
        stage("", Bytes.nm("n")).due("name(0)", FIRST.length).fault(0, NONE);
        stage("").due("copy(0, 0)", FIRST.length).fault(0, NONE);
        stage("").due("set(0, 16, 1)", FIRST.length).fault(0, NONE);
        stage("", Bytes.nm("n")).due("write(10)", 10).fault(0, NONE);
        stage("", Bytes.nm("n")).due("open(3)", 14).fault(0, NONE);
        stage("a place beyond all bytes").first("close()", "begin()").tape(Bytes.nm("abc")).faulty("write(16)", 1, 4);
    }

    private static void faultStays() {
        EDGES.says("Promise 5", "that came to judging (and was not ended by another exception told ahead of a FAULT)");
        String[] ended = {"take(4)", "value(4, 10)", "value(2, 10)", "put(4, 0, 10)", "put(0, 3, 10)", "put(0, -1, 10)", "name(4)", "name(2)",
            "name(1)", "copy(4, 0)", "copy(0, 4)", "copy(2, 0)",
            "copy(0, 2)", "set(4, 16, 1)", "set(2, 16, 1)"};
        for (String call : ended) {
            stage("", Bytes.doc()).first(call).fault(4, 4);
        }
        stage("", Bytes.nm("n")).first("close()", "write(10)").fault(4, 4).tape(Bytes.nm("n")).first("open(3)").fault(4, 4);
        String[] others = {"feed(0, 0, 0, 0, 0)", "end(0)", "go(0, 1)", "find(0)", "path(0)", "in(1)", "out(1)", "look(0, 0)", "byteAt(0, 0)",
            "number(0)", "total(0, 0)", "kinds(0, 3)", "drop(0)", "move(0, 1)",
            "latest(0)", "begin()", "close()", "lay(0)", "sheet(0)", "sheetAt(0)", "taped()"};
        for (String call : others) {
            stage("", Bytes.doc()).first(call).fault(4, 4);
        }
    }

    private static void faultWhat() {
        Run r = EDGES.says("Promise 5", "NONE for another what; 0 and NONE ahead of any.").fault(0, NONE);
        for (int what : new int[] {-1, 2, 3, LEAST, GREATEST}) {
            r.due("fault(" + what + ")", NONE);
        }
        r.idle("take(4)", Run.NO_SHELF).idle("drop(0)", Run.NO_ELEMENT).tape(SPOILED).due("judge()", 4);
        for (int what : new int[] {-1, 2, 3, LEAST, GREATEST}) {
            r.due("fault(" + what + ")", NONE);
        }
    }

    private static void take() {
        EDGES.says("Promise 6", "Uses the TAPE up, which becomes the DOCUMENT of a shelf: how many bytes.");
        for (int s = 0; s < 4; s++) {
            stage("", FIRST).due("take(" + s + ")", FIRST.length).due("taped()", 0).holds(s, FIRST).looks(s, FIRST.length, 1, 2, 0, 0, 0);
            stage("", Bytes.doc()).due("take(" + s + ")", 5).holds(s, Bytes.doc()).looks(s, 5, 1, 0, 0, 0, NONE);
        }
        Run r = EDGES.run("the greatest").tape(Bytes.doc(Bytes.el(5, "", Bytes.binary(0, Bytes.zeros(1988))))).due("take(3)", 2000)
            .due("byteAt(3, 1999)", 0);
        r.take(3, Bytes.doc()).due("byteAt(3, 5)", NONE).due("taped()", 0);
        EDGES.says("Promise 6", "IndexOutOfBoundsException: there is no such shelf; IllegalArgumentException: a FAULT.");
        for (int s : NO_SHELVES) {
            stage("", FIRST).idle("take(" + s + ")", Run.NO_SHELF);
        }
        stage("").faulty("take(0)", 1, 0).tape(SPOILED).faulty("take(1)", 4, 4).tape(FIRST, Bytes.one(0)).faulty("take(3)", 9, FIRST.length);
    }

    private static void taped() {
        Run r = EDGES.says("Promise 32", "How many bytes the TAPE has.").due("taped()", 0).first("feed(1, 2, 3, 4, 5)").due("taped()", 20)
            .due("taped()", 20);
        r.first("end(19)").due("taped()", 19).first("feed(1, 2, 3, 4, 5)").due("taped()", 39).first("take(0)").due("taped()", 0)
            .tape(Bytes.zeros(2000)).due("taped()", 2000);
        r.first("feed(1, 2, 3, 4, 5)").due("taped()", 2000).first("path(0)").due("taped()", 0);
    }
}
