import java.util.Arrays;

/** Terms 4 and promises 7 to 16: each sentence with a boundary case of shelves, cursors, and what is told of them. */
public final class ShelvesEdgesTest {
    private static final Edges EDGES = new Edges("ShelvesEdgesTest");
    private static final int NONE = SpanShelves.NONE;
    private static final int LEAST = Integer.MIN_VALUE;
    private static final int GREATEST = Integer.MAX_VALUE;
    private static final int[] NO_SHELVES = {-1, 4, LEAST, GREATEST};
    private static final int[] NO_TYPES = {-1, 0, 20, 126, 128, 254, 256, 256 + 10, -255, LEAST, GREATEST};

    public static void main(String[] args) {
        shelves();
        cursors();
        wholeDocuments();
        changes();
        rows();
        go();
        find();
        path();
        pathDepths();
        in();
        out();
        look();
        lookAtEachType();
        byteAt();
        number();
        total();
        totalOfLengths();
        kinds();
        EDGES.finish();
    }

    /** One element of each type, from 1 to 255, their names a, b, c, .. */
    private static byte[] ofEachType() {
        byte[][] values = {Bytes.i64(1), Bytes.text(""), Bytes.doc(), Bytes.doc(), Bytes.binary(0, Bytes.zeros(0)), {}, Bytes.zeros(12),
            Bytes.one(1), Bytes.i64(2), {}, Bytes.zeros(2),
            Bytes.join(Bytes.text(""), Bytes.zeros(12)), Bytes.text(""), Bytes.text(""), Bytes.scoped("", Bytes.doc()), Bytes.i32(3), Bytes.i64(4),
                Bytes.i64(5), Bytes.zeros(16), {}, {}};
        byte[][] elements = new byte[values.length][];
        for (int i = 0; i < values.length; i++) {
            elements[i] = Bytes.el(typeOf(i), Character.toString('a' + i), values[i]);
        }
        return Bytes.doc(elements);
    }

    private static int typeOf(int i) {
        return i < 19 ? i + 1 : i == 19 ? 127 : 255;
    }

    // ---- Terms 4

    private static void shelves() {
        Run r = EDGES.says("Terms",
            "SHELVES 0 .. 3 have a DOCUMENT each, of at most 2400 bytes (BIG, if it would have more); the one without ELEMENTS (5 bytes) at first.");
        for (int s = 0; s < 4; s++) {
            r.holds(s, Bytes.doc()).due("look(" + s + ", 0)", 5);
        }
        for (int s = 0; s < 4; s++) {
            EDGES.run("to 2400").fill(s, 2400, Bytes.el(10, "a")).due("look(" + s + ", 0)", 2400).tape(Bytes.nm("")).big("put(" + s + ", 0, 10)")
                .due("byteAt(" + s + ", 2399)", 0);
            EDGES.run("to 2400").fill(s, 2398, Bytes.el(10, "a")).tape(Bytes.nm("")).due("put(" + s + ", 0, 10)", 2400);
            EDGES.run("to 2401").fill(s, 2399, Bytes.el(10, "a")).tape(Bytes.nm("")).big("put(" + s + ", 0, 10)");
        }
        Run each = EDGES.run("each its own");
        for (int s = 0; s < 4; s++) {
            each.take(s, Bytes.doc(Bytes.el(16, "n", Bytes.i32(s))));
        }
        for (int s = 0; s < 4; s++) {
            each.due("number(" + s + ")", s);
        }
    }

    private static void cursors() {
        Run r = EDGES.says("Terms",
            "it STANDS IN one of the DOCUMENTS there (the ROOT, or one in it) and is AT an ELEMENT of it, or at none just if that has none.");
        r.looks(0, 5, 1, 0, 0, 0, NONE).tape(Bytes.nm("a")).due("put(0, 0, 10)", 8).looks(0, 8, 1, 1, 0, 0, 0).due("drop(0)", 5)
            .looks(0, 5, 1, 0, 0, 0, NONE);
        r.take(0, Bytes.doc(Bytes.el(3, "d", Bytes.doc()))).first("in(0)").looks(0, 13, 2, 0, 7, 3, NONE).tape(Bytes.nm("k")).due("put(0, 0, 10)", 16)
            .looks(0, 16, 2, 1, 7, 3, 0);
        Run s = EDGES.says("Terms", "ELEMENTS of a DOCUMENT are numbered from 0 on, as they lie.");
        s.take(0, Bytes.doc(Bytes.el(10, "b"), Bytes.el(6, "a"), Bytes.el(255, "b"))).due("look(0, 5)", 0).due("look(0, 7)", 10);
        s.due("go(0, 1)", true).due("look(0, 7)", 6).due("go(0, 2)", true).due("look(0, 7)", 255).due("go(0, 3)", false);
    }

    private static void wholeDocuments() {
        EDGES.says("Terms", "When a shelf gets another DOCUMENT as a whole, its CURSOR stands in the ROOT, at ELEMENT 0 (at none without one).");
        byte[] deep = Bytes.doc(Bytes.el(10, "a"), Bytes.el(3, "d", Bytes.doc(Bytes.el(10, "x"), Bytes.el(10, "y"))));
        for (boolean empty : new boolean[] {true, false}) {
            Run taken = EDGES.run("take").take(1, deep).take(2, deep).first("go(1, 1)", "in(1)", "go(1, 1)", "go(2, 1)", "in(2)", "go(2, 1)");
            taken.take(1, empty ? Bytes.doc() : deep).looks(1, empty ? 5 : 22, 1, empty ? 0 : 2, 0, 0, empty ? NONE : 0).looks(2, 22, 2, 2, 10, 3, 1)
                .due("out(1)", false);
            Run laid = EDGES.run("lay").take(1, deep).take(2, deep)
                .first("go(1, 1)", "in(1)", "go(1, 1)", "go(2, 1)", "in(2)", "go(2, 1)", "begin()");
            if (!empty) {
                laid.tape(Bytes.nm("w")).due("write(10)", 7);
            }
            laid.first("close()").due("lay(1)", empty ? 5 : 8).looks(1, empty ? 5 : 8, 1, empty ? 0 : 1, 0, 0, empty ? NONE : 0)
                .looks(2, 22, 2, 2, 10, 3, 1).due("out(1)", false);
        }
        EDGES.run("the same one again").take(0, deep).first("go(0, 1)", "in(0)").take(0, deep).looks(0, 22, 1, 2, 0, 0, 0);
    }

    /** A root in which a document, a row and a scope lie one in the other, the innermost with this element of type 5. */
    private static byte[] around(int bytes) {
        byte[] scope = Bytes.scoped("f", Bytes.doc(Bytes.el(5, "b", Bytes.binary(0, Bytes.zeros(bytes))), Bytes.el(10, "e")));
        return Bytes.doc(Bytes.el(3, "d", Bytes.doc(Bytes.el(4, "r", Bytes.row(15, scope)), Bytes.el(6, "u"))), Bytes.el(6, "v"));
    }

    private static void changes() {
        EDGES.says("Terms",
            "CHANGES (value, put, name, drop, move, copy, set) are made in the DOCUMENT in which the CURSOR stands; all LENGTHS around are as they must be then;");
        // From and to sizes at which the lengths' first bytes go over, and back.
        int[][] sizes = {{0, 1}, {190, 230}, {230, 190}, {255, 256}, {256, 255}, {200, 700}, {700, 200}, {700, 0}};
        for (int[] pair : sizes) {
            for (boolean byPath : new boolean[] {true, false}) {
                Run r = EDGES.run(pair[0] + " to " + pair[1]).take(2, around(pair[0]));
                if (byPath) {
                    r.tape(Bytes.raw("d\0r\0000\0b")).due("path(2)", 4);
                } else {
                    r.due("in(2)", true).due("in(2)", true).due("in(2)", true);
                }
                r.due("look(2, 1)", 4).tape(Bytes.binary(0, Bytes.zeros(pair[1]))).due("value(2, 5)", around(pair[1]).length);
                r.holds(2, around(pair[1])).latest(r.number("look(2, 9)"), 5, pair[1] - pair[0], 2);
            }
        }
        Run s = EDGES.says("Terms", "CURSORS of other shelves stay.").take(0, around(3)).take(1, around(3)).take(2, around(3))
            .first("in(0)", "in(0)", "in(0)", "go(0, 1)", "in(1)", "go(1, 1)", "go(2, 1)");
        int[] there = {around(3).length, 4, 2};
        s.first("in(3)").tape(Bytes.nm("n")).due("put(3, 0, 10)", 8).due("set(3, 16, 1)", 12).due("drop(3)", 5);
        s.due("look(0, 0)", there[0]).due("look(0, 1)", there[1]).due("look(0, 5)", 1).due("look(1, 1)", 2).due("look(1, 5)", 1).due("look(2, 1)", 1)
            .due("look(2, 5)", 1);
        s.due("drop(1)", around(3).length - 3).due("look(0, 5)", 1).due("look(0, 1)", 4).due("look(2, 5)", 1);
    }

    private static void rows() {
        EDGES.says("Terms", "in a ROW the NAMES are 0, 1, 2, .. again.");
        for (int count : new int[] {1, 2, 9, 10, 11, 99, 100, 101}) {
            byte[] before = Bytes.doc(Bytes.el(4, "r", Bytes.row(10, new byte[count][0])), Bytes.el(6, "z"));
            byte[] more = Bytes.doc(Bytes.el(4, "r", Bytes.row(10, new byte[count + 1][0])), Bytes.el(6, "z"));
            byte[] fewer = Bytes.doc(Bytes.el(4, "r", Bytes.row(10, new byte[count - 1][0])), Bytes.el(6, "z"));
            for (int i : new int[] {0, count / 2, count}) {
                EDGES.run("put " + i + " of " + count).take(0, before).first("in(0)", "end(0)").due("put(0, " + i + ", 10)", more.length)
                    .holds(0, more).due("look(0, 5)", i).due("look(0, 8)", Integer.toString(i).length());
            }
            for (int i : new int[] {0, count / 2, count - 1}) {
                EDGES.run("drop " + i + " of " + count).take(0, before).first("in(0)", "go(0, " + i + ")").due("drop(0)", fewer.length)
                    .holds(0, fewer).due("look(0, 5)", Math.min(i, count - 2));
            }
            EDGES.run("move in " + count).take(0, before).first("in(0)").due("move(0, " + (count - 1) + ")", true).holds(0, before)
                .due("move(0, 0)", true).holds(0, before);
        }
        // Only the row in which the cursor stands has other names: a document in it keeps its own.
        byte[] inner = Bytes.doc(Bytes.el(10, "7"), Bytes.el(10, "x"));
        EDGES.run("a document in a row").take(0, Bytes.doc(Bytes.el(4, "r", Bytes.row(3, inner, inner)))).first("in(0)").due("drop(0)", 27)
            .holds(0, Bytes.doc(Bytes.el(4, "r", Bytes.row(3, inner)))).first("in(0)")
            .due("drop(0)", 24).holds(0, Bytes.doc(Bytes.el(4, "r", Bytes.row(3, Bytes.doc(Bytes.el(10, "x"))))));
    }

    // ---- promises 7 to 11

    private static void go() {
        Run r = EDGES.says("Promise 7",
            "The CURSOR is at ELEMENT i of the DOCUMENT in which it stands: true; false, and it stays, if there is none such.");
        r.idle("go(0, 0)", false).idle("go(0, -1)", false).take(0,
            Bytes.doc(Bytes.el(10, "a"), Bytes.el(6, "b"), Bytes.el(3, "d", Bytes.doc(Bytes.el(10, "k")))));
        r.due("go(0, 2)", true).due("look(0, 5)", 2).idle("go(0, 3)", false).idle("go(0, -1)", false).idle("go(0, " + GREATEST + ")", false)
            .idle("go(0, " + LEAST + ")", false);
        r.due("go(0, 0)", true).due("look(0, 5)", 0).due("look(0, 7)", 10).due("go(0, 0)", true).due("go(0, 2)", true).due("in(0)", true)
            .idle("go(0, 1)", false).due("go(0, 0)", true).due("look(0, 1)", 2);
        EDGES.says("Promise 7", "IndexOutOfBoundsException: there is no such shelf (here and below).");
        for (int s : NO_SHELVES) {
            String[] calls = {"go(" + s + ", 0)", "go(" + s + ", -1)", "find(" + s + ")", "path(" + s + ")", "in(" + s + ")", "out(" + s + ")",
                "look(" + s + ", 0)", "look(" + s + ", 99)", "byteAt(" + s + ", 0)",
                "byteAt(" + s + ", -1)", "number(" + s + ")", "total(" + s + ", 0)", "total(" + s + ", 99)", "kinds(" + s + ", 10)",
                    "kinds(" + s + ", 99)", "value(" + s + ", 10)", "put(" + s + ", 0, 10)", "name(" + s + ")",
                "drop(" + s + ")", "move(" + s + ", 0)", "move(" + s + ", -1)", "copy(" + s + ", 0)", "copy(0, " + s + ")",
                    "copy(" + s + ", " + s + ")", "set(" + s + ", 16, 1)", "lay(" + s + ")"};
            for (String call : calls) {
                EDGES.run("").take(0, Bytes.doc(Bytes.el(10, "a"))).tape(Bytes.nm("a")).idle(call, Run.NO_SHELF);
            }
            EDGES.run("").first("begin()", "close()").idle("lay(" + s + ")", Run.NO_SHELF);
        }
    }

    private static void find() {
        Run r = EDGES.says("Promise 8",
            "The CURSOR is at the first ELEMENT of the DOCUMENT in which it stands whose NAME (without its 0) is the TAPE: its number; NONE, and it stays, if there is none such.");
        r.idle("find(0)", NONE).take(0, Bytes.doc(Bytes.el(10, "ab"), Bytes.el(6, "a"),
            Bytes.el(3, "d", Bytes.doc(Bytes.el(10, "k"), Bytes.el(6, ""))), Bytes.el(10, "a"), Bytes.el(10, "d")));
        r.tape(Bytes.raw("a")).due("find(0)", 1).due("look(0, 5)", 1).tape(Bytes.raw("d")).due("find(0)", 2).tape(Bytes.raw("ab")).due("find(0)", 0)
            .first("go(0, 4)");
        for (String none : new String[] {"", "b", "abc", "a\0", "\0", "ab\0\6a", "k", "A"}) {
            r.tape(Bytes.raw(none)).idle("find(0)", NONE);
        }
        r.tape(Bytes.raw("a")).due("find(0)", 1).first("go(0, 2)", "in(0)").tape().due("find(0)", 1).due("look(0, 5)", 1).tape(Bytes.raw("k"))
            .due("find(0)", 0).tape(Bytes.raw("a")).idle("find(0)", NONE);
        String longest = "n".repeat(1993);
        String[] wishes = {longest, longest + "n", longest.substring(1) + "m", "m" + longest.substring(1), longest.substring(1)};
        for (int k = 0; k < wishes.length; k++) {
            Run each = EDGES.run("a long name").take(0, Bytes.doc(Bytes.el(10, longest))).tape(Bytes.raw(wishes[k]));
            each.idle("find(0)", k == 0 ? 0 : NONE);
        }
        EDGES.run("2000 bytes").take(0, Bytes.doc(Bytes.el(10, ""))).tape(Bytes.zeros(2000)).idle("find(0)", NONE).tape(Bytes.hex("FF"))
            .idle("find(0)", NONE).due("find(0)", 0);
        EDGES.run("in a row").take(0, Bytes.doc(Bytes.el(4, "r", Bytes.row(10, new byte[12][0])))).first("in(0)").tape(Bytes.raw("11"))
            .due("find(0)", 11).tape(Bytes.raw("12")).idle("find(0)", NONE)
            .tape(Bytes.raw("01")).idle("find(0)", NONE);
    }

    private static void path() {
        byte[] inner = Bytes.doc(Bytes.el(10, "x"), Bytes.el(4, "r", Bytes.row(3, Bytes.doc(), Bytes.doc(Bytes.el(16, "", Bytes.i32(8))))));
        byte[] document = Bytes.doc(Bytes.el(10, "s"), Bytes.el(15, "c", Bytes.scoped("f", inner)),
            Bytes.el(3, "c", Bytes.doc(Bytes.el(10, "only"))), Bytes.el(3, "", Bytes.doc(Bytes.el(9, "", Bytes.i64(5)))));
        Run r = EDGES.says("Promise 9", "Uses the TAPE up; its parts are what stands between the 0s in it (one more than 0s).").take(0, document);
        r.tape().due("path(0)", 1).due("look(0, 5)", 3).tape(Bytes.zeros(1)).due("path(0)", 2).due("number(0)", 5).tape(Bytes.zeros(2))
            .idle("path(0)", 2).tape(Bytes.zeros(2000)).idle("path(0)", 2);
        r.tape(Bytes.raw("s\0")).idle("path(0)", 1).tape(Bytes.raw("\0s")).idle("path(0)", 1);
        Run s = EDGES.says("Promise 9",
            "From the ROOT on: the first ELEMENT whose NAME is the first part; of its DOCUMENT (TYPE 3, 4, 15) the first one whose NAME is the second part, and so on: how many parts were found.");
        s.take(0, document).tape(Bytes.raw("c\0r\0001\0")).due("path(0)", 4).looks(0, document.length, 4, 1).due("number(0)", 8).tape(Bytes.raw("s"))
            .due("path(0)", 1).looks(0, document.length, 1, 4, 0, 0, 0);
        s.tape(Bytes.raw("c\0only")).idle("path(0)", 1).tape(Bytes.raw("c\0x")).due("path(0)", 2).due("look(0, 4)", 15).due("out(0)", true)
            .due("look(0, 5)", 1);
        Run t = EDGES.says("Promise 9", "If all were, the CURSOR is at the last one; else it stays.").take(0, document).tape(Bytes.raw("c\0r\0001"))
            .due("path(0)", 3).looks(0, document.length, 3, 2);
        t.tape(Bytes.raw("q")).idle("path(0)", 0).tape(Bytes.raw("q\0x")).idle("path(0)", 0).tape(Bytes.raw("s\0x")).idle("path(0)", 1)
            .tape(Bytes.raw("c\0r\0002")).idle("path(0)", 2);
        t.tape(Bytes.raw("c\0r\0000\0x")).idle("path(0)", 3).tape(Bytes.raw("c\0r\0000\0")).idle("path(0)", 3).tape(Bytes.raw("c\0x\0y\0z"))
            .idle("path(0)", 2);
        EDGES.run("none there").idle("path(0)", 0).tape(Bytes.zeros(3)).idle("path(0)", 0);
        Run u = EDGES.run("no document").take(0, ofEachType());
        for (int i = 0; i < 21; i++) {
            u.tape(Bytes.raw(Character.toString('a' + i) + "\0")).due("path(0)", 1).due("look(0, 5)", 0);
        }
    }

    private static void pathDepths() {
        byte[] deepest = Bytes.doc(Bytes.el(10, ""));
        for (int k = 1; k < 24; k++) {
            deepest = Bytes.doc(Bytes.el(3, "", deepest));
        }
        Run r = EDGES.run("depth 24").take(0, deepest).tape(Bytes.zeros(22)).due("path(0)", 23).due("look(0, 1)", 23).tape(Bytes.zeros(24))
            .idle("path(0)", 24).tape(Bytes.zeros(2000)).idle("path(0)", 24);
        r.tape(Bytes.zeros(23)).due("path(0)", 24).due("look(0, 1)", 24).due("look(0, 7)", 10);
        EDGES.run("an empty one at depth 24").take(0, Bytes.nest(24)).tape(Bytes.zeros(23)).idle("path(0)", 23).tape(Bytes.zeros(22))
            .due("path(0)", 23).due("look(0, 1)", 23).due("in(0)", true).due("look(0, 1)", 24);
    }

    private static void in() {
        Run r = EDGES.says("Promise 10",
            "The CURSOR stands in the DOCUMENT of its ELEMENT (TYPE 3, 4, 15), at ELEMENT 0 (none, if there is none): true; false, and it stays, if its ELEMENT has none, or it is at none.");
        r.idle("in(0)", false);
        for (int i = 0; i < 21; i++) {
            int type = typeOf(i);
            Run each = EDGES.run("type " + type).take(0, ofEachType()).first("go(0, " + i + ")");
            if (type == 3 || type == 4 || type == 15) {
                int place = each.number("look(0, 9)") + (type == 15 ? 9 : 0);
                each.due("in(0)", true).looks(0, ofEachType().length, 2, 0, place, type, NONE, NONE, NONE, NONE, NONE, NONE).idle("in(0)", false);
            } else {
                each.idle("in(0)", false);
            }
        }
        Run s = EDGES.run("at 0").take(0, Bytes.doc(Bytes.el(3, "d", Bytes.doc(Bytes.el(10, "x"), Bytes.el(6, "y"))))).due("in(0)", true)
            .due("look(0, 5)", 0).first("go(0, 1)", "out(0)").due("in(0)", true).due("look(0, 5)", 0);
        s.idle("in(0)", false);
        Run t = EDGES.run("depth 24").take(0, Bytes.nest(24));
        for (int k = 1; k < 24; k++) {
            t.due("in(0)", true).due("look(0, 1)", k + 1).due("look(0, 3)", 6 * k);
        }
        t.idle("in(0)", false);
    }

    private static void out() {
        Run r = EDGES.says("Promise 11",
            "The CURSOR is at the ELEMENT in whose VALUE the DOCUMENT is in which it stands: true; false, and it stays, if that is the ROOT.");
        r.idle("out(0)", false).take(0, Bytes.doc(Bytes.el(10, "a"), Bytes.el(15, "c", Bytes.scoped("", Bytes.doc())), Bytes.el(6, "b")))
            .first("go(0, 2)").idle("out(0)", false);
        r.first("go(0, 1)").due("in(0)", true).due("out(0)", true).looks(0, 28, 1, 3, 0, 0, 1, 7, 15);
        r.due("in(0)", true).tape(Bytes.nm("n")).due("put(0, 0, 10)", 31).due("drop(0)", 28).due("out(0)", true).looks(0, 28, 1, 3, 0, 0, 1, 7, 15)
            .idle("out(0)", false);
        Run s = EDGES.run("depth 24").take(0, Bytes.nest(24)).tape(Bytes.zeros(22)).due("path(0)", 23).due("in(0)", true);
        for (int k = 23; k >= 1; k--) {
            s.due("out(0)", true).due("look(0, 1)", k).due("look(0, 5)", 0);
        }
        s.idle("out(0)", false);
    }

    // ---- promises 12 to 16

    private static void look() {
        EDGES.says("Promise 12", "What 0: how many bytes the shelf's DOCUMENT has.").due("look(0, 0)", 5);
        EDGES.run("full").fill(0, 2400, Bytes.el(10, "a")).due("look(0, 0)", 2400).due("drop(0)", 2397).due("look(0, 0)", 2397);
        EDGES.run("wherever the cursor is").take(0, Bytes.nest(24)).first("in(0)").due("look(0, 0)", 166);
        Run r = EDGES.says("Promise 12",
            "Of the DOCUMENT in which the CURSOR stands: 1 its DEPTH, 2 how many ELEMENTS it has, 3 its place, 4 the TYPE in whose VALUE it is (0 of the ROOT).");
        r.looks(0, 5, 1, 0, 0, 0).take(0, Bytes.doc(Bytes.el(15, "c", Bytes.scoped("ff", Bytes.row(3, Bytes.doc(), Bytes.doc())))))
            .looks(0, 40, 1, 1, 0, 0);
        r.first("in(0)").looks(0, 40, 2, 2, 18, 15).first("in(0)").looks(0, 40, 3, 0, 25, 3);
        byte[][] most = new byte[997][];
        Arrays.fill(most, Bytes.el(10, ""));
        EDGES.run("as many as a tape can have").take(0, Bytes.doc(most)).looks(0, 1999, 1, 997).due("go(0, 996)", true).due("look(0, 6)", 1996)
            .idle("go(0, 997)", false);
        Run s = EDGES.says("Promise 12", "Of the ELEMENT (NONE for all these, if the CURSOR is at none):");
        s.looks(0, 5, 1, 0, 0, 0, NONE, NONE, NONE, NONE, NONE, NONE).take(0, Bytes.doc(Bytes.el(10, ""))).looks(0, 7, 1, 1, 0, 0, 0, 4, 10, 0, 6, 0);
        s.take(0, Bytes.doc(Bytes.el(10, "a"), Bytes.el(3, "\u20ac", Bytes.doc()))).first("go(0, 1)").looks(0, 18, 1, 2, 0, 0, 1, 7, 3, 3, 12, 5);
        s.first("in(0)").looks(0, 18, 2, 0, 12, 3, NONE, NONE, NONE, NONE, NONE, NONE);
        Run t = EDGES.says("Promise 12", "NONE for another what.").take(0, Bytes.doc(Bytes.el(10, "a")));
        for (int what : new int[] {-1, 11, 12, LEAST, GREATEST}) {
            t.due("look(0, " + what + ")", NONE).due("look(1, " + what + ")", NONE);
        }
    }

    private static void lookAtEachType() {
        Run r = EDGES.says("Promise 12",
            "5 its number, 6 its place, 7 its TYPE, 8 how many bytes its NAME has (without the 0), 9 the place of its VALUE, 10 how many bytes that has.").take(0, ofEachType());
        int[] sizes = {8, 5, 5, 5, 5, 0, 12, 1, 8, 0, 2, 17, 5, 5, 14, 4, 8, 8, 16, 0, 0};
        int place = 4;
        for (int i = 0; i < sizes.length; i++) {
            r.first("go(0, " + i + ")").looks(0, ofEachType().length, 1, 21, 0, 0, i, place, typeOf(i), 1, place + 3, sizes[i]);
            place += 3 + sizes[i];
        }
    }

    private static void byteAt() {
        Run r = EDGES.says("Promise 13", "Byte i of the shelf's DOCUMENT; NONE if there is none such.");
        r.due("byteAt(0, 0)", 5).due("byteAt(0, 4)", 0);
        for (int i : new int[] {-1, 5, 2399, 2400, LEAST, GREATEST}) {
            r.due("byteAt(0, " + i + ")", NONE);
        }
        Run s = EDGES.run("full").fill(0, 2400, Bytes.el(10, "a")).due("byteAt(0, 0)", 0x60).due("byteAt(0, 1)", 0x09).due("byteAt(0, 2399)", 0)
            .due("byteAt(0, 2400)", NONE).due("byteAt(0, -1)", NONE);
        s.due("drop(0)", 2397).due("byteAt(0, 2396)", 0).due("byteAt(0, 2397)", NONE).due("byteAt(0, 2399)", NONE);
        EDGES.run("high bytes").take(0, Bytes.doc(Bytes.el(16, "", Bytes.i32(-1)))).due("byteAt(0, 6)", 255).due("byteAt(0, 9)", 255).first("in(0)")
            .due("byteAt(0, 0)", 11);
    }

    private static void number() {
        Run r = EDGES.says("Promise 14",
            "The number that the ELEMENT's VALUE is: of TYPE 16 its INT, of 9, 17, 18 its LONG, of 1 its eight bytes as a LONG, of 8 its byte.");
        long[] longs = {Long.MIN_VALUE, Long.MAX_VALUE, -1, 0, 1, 0x80000000L, 0xFFFFFFFFL, 1L << 32, Long.MIN_VALUE + 1};
        for (int type : new int[] {1, 9, 17, 18}) {
            for (long n : longs) {
                r.tape(Bytes.doc(Bytes.el(type, "n", Bytes.i64(n)))).first("take(0)").due("number(0)", n);
            }
        }
        for (int n : new int[] {LEAST, GREATEST, -1, 0, 1, 128, 255, 256}) {
            EDGES.run("16").take(0, Bytes.doc(Bytes.el(16, "n", Bytes.i32(n)), Bytes.el(255, "\u00ff"))).due("number(0)", n);
        }
        EDGES.run("8").take(0, Bytes.doc(Bytes.el(8, "n", Bytes.one(0)), Bytes.el(8, "n", Bytes.one(1)), Bytes.el(255, "z"))).due("number(0)", 0)
            .first("go(0, 1)").due("number(0)", 1);
        Run s = EDGES.says("Promise 14", "NoSuchElementException: the CURSOR is at none; IllegalStateException: it is of another TYPE.");
        s.idle("number(0)", Run.NO_ELEMENT).take(0, Bytes.doc(Bytes.el(3, "d", Bytes.doc()), Bytes.el(16, "n", Bytes.i32(1)))).first("in(0)")
            .idle("number(0)", Run.NO_ELEMENT);
        for (int i = 0; i < 21; i++) {
            int type = typeOf(i);
            Run each = EDGES.run("type " + type).take(0, ofEachType()).first("go(0, " + i + ")");
            boolean isNumber = type == 1 || type == 8 || type == 9 || type >= 16 && type <= 18;
            each.idle("number(0)", isNumber ? type == 1 || type == 8 ? "1" : type == 9 ? "2" : String.valueOf(type - 13) : Run.STATE);
        }
    }

    private static void total() {
        Run r = EDGES.says("Promise 15", "what 0 how many ELEMENTS, 1 the greatest DEPTH, 2 how many DOCUMENTS,");
        r.due("total(0, 0)", 0).due("total(0, 1)", 1).due("total(0, 2)", 1).due("total(0, 3)", 1).due("total(0, 4)", 5).due("total(0, 5)", 0);
        r.take(0, Bytes.nest(24)).due("total(0, 0)", 23).due("total(0, 1)", 24).due("total(0, 2)", 24).due("total(0, 3)", 24).due("total(0, 5)", 0);
        // The deepest one is not the last one; where the cursor stands does not matter.
        byte[] document = Bytes.doc(Bytes.el(3, "a", Bytes.doc(Bytes.el(4, "bc", Bytes.row(10, new byte[11][0])))),
            Bytes.el(15, "", Bytes.scoped("", Bytes.doc())), Bytes.el(10, "\u20ac"));
        r.take(1, document).first("go(1, 1)", "in(1)").due("total(1, 0)", 15).due("total(1, 1)", 3).due("total(1, 2)", 4)
            .due("total(1, 5)", 1 + 2 + 12 + 0 + 3);
        Run s = EDGES.says("Promise 15", "NONE for another what.").take(0, document);
        for (int what : new int[] {-1, 6, 7, LEAST, GREATEST}) {
            s.due("total(0, " + what + ")", NONE);
        }
    }

    private static void totalOfLengths() {
        Run r = EDGES.says("Promise 15",
            "3 how many INTS that tell how many bytes something has (LENGTHS; n of TYPE 5, and the second one of its KIND 2), 4 the sum of these, 5 bytes of all NAMES of ELEMENTS (without 0s).");
        Object[][] values = {{2, Bytes.text(""), 1, 1}, {3, Bytes.doc(), 1, 5}, {4, Bytes.doc(), 1, 5}, {5, Bytes.binary(0, Bytes.zeros(0)), 1, 0},
            {5, Bytes.binary(0, Bytes.zeros(300)), 1, 300},
            {5, Bytes.binary(2, Bytes.i32(0)), 2, 4}, {5, Bytes.binary(2, Bytes.join(Bytes.i32(3), Bytes.zeros(3))), 2, 10},
                {5, Bytes.binary(3, Bytes.i32(0)), 1, 4}, {11, Bytes.hex("61006200"), 0, 0},
            {12, Bytes.join(Bytes.text("ab"), Bytes.zeros(12)), 1, 3}, {13, Bytes.text("a"), 1, 2}, {14, Bytes.text(""), 1, 1},
                {15, Bytes.scoped("", Bytes.doc()), 3, 20}, {16, Bytes.i32(9), 0, 0}, {10, Bytes.zeros(0), 0, 0}};
        for (Object[] value : values) {
            byte[] document = Bytes.doc(Bytes.el((Integer) value[0], "nm", (byte[]) value[1]));
            r.tape(document).first("take(0)").due("total(0, 3)", 1 + (Integer) value[2]).due("total(0, 4)", document.length + (Integer) value[3])
                .due("total(0, 5)", 2);
        }
        EDGES.run("full").fill(0, 2400, Bytes.el(10, "a")).due("total(0, 3)", 3).due("total(0, 4)", 2400 + (1000 - 3) + (2400 - 1013 - 8))
            .due("total(0, 5)", 3);
    }

    private static void kinds() {
        Run r = EDGES.says("Promise 16",
            "How many ELEMENTS of a TYPE there are in the shelf's DOCUMENT with all that are in it (0 of what is no TYPE).").take(0, ofEachType());
        for (int i = 0; i < 21; i++) {
            r.due("kinds(0, " + typeOf(i) + ")", 1).due("kinds(1, " + typeOf(i) + ")", 0);
        }
        for (int type : NO_TYPES) {
            r.due("kinds(0, " + type + ")", 0).due("kinds(1, " + type + ")", 0);
        }
        byte[] row = Bytes.row(10, new byte[11][0]);
        Run s = EDGES.run("in all").take(0, Bytes.doc(Bytes.el(10, "a"), Bytes.el(3, "d", Bytes.doc(Bytes.el(4, "r", row), Bytes.el(10, "b"))),
            Bytes.el(15, "c", Bytes.scoped("", Bytes.doc(Bytes.el(10, "x"))))));
        s.first("go(0, 1)", "in(0)").due("kinds(0, 10)", 14).due("kinds(0, 3)", 1).due("kinds(0, 4)", 1).due("kinds(0, 15)", 1).due("kinds(0, 6)", 0);
    }
}
