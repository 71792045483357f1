/** Promises 17 to 24: each sentence with a boundary case of the changes, and of what is told of the latest one. */
public final class ChangesEdgesTest {
    private static final Edges EDGES = new Edges("ChangesEdgesTest");
    private static final int NONE = SpanShelves.NONE;
    private static final int LEAST = Integer.MIN_VALUE;
    private static final int GREATEST = Integer.MAX_VALUE;
    private static final byte[] A = Bytes.el(16, "a", Bytes.i32(1));
    private static final byte[] B = Bytes.el(10, "bb");
    private static final byte[] C = Bytes.el(8, "c", Bytes.one(1));
    private static final byte[] D = Bytes.el(6, "d");

    public static void main(String[] args) {
        values();
        valueFaults();
        valueBig();
        puts();
        putNumbers();
        putBig();
        putBigInLastRow();
        names();
        nameStates();
        drops();
        moves();
        movesRefused();
        copies();
        copiesRefused();
        sets();
        setFaults();
        setBig();
        latestPlace();
        latestLengths();
        latestOfWhich();
        EDGES.finish();
    }

    private static Run with(String what, byte[]... elements) {
        return EDGES.run(what).take(0, Bytes.doc(elements));
    }

    /** A root in which the cursor stands in a row with so many elements of type 10; an element z lies behind it. */
    private static Run inRow(String what, int count) {
        return with(what, Bytes.el(4, "r", Bytes.row(10, new byte[count][0])), Bytes.el(6, "z")).due("in(0)", true);
    }

    private static byte[] row(byte[]... elements) {
        return Bytes.doc(Bytes.el(4, "r", Bytes.doc(elements)), Bytes.el(6, "z"));
    }

    // ---- promise 17

    private static void values() {
        EDGES.says("Promise 17", "all of it is a VALUE of that type, which the ELEMENT has then: how many bytes the shelf's DOCUMENT has.");
        Object[][] least = {{1, Bytes.zeros(8)}, {2, Bytes.text("")}, {3, Bytes.doc()}, {4, Bytes.doc()}, {5, Bytes.binary(0, Bytes.zeros(0))},
            {6, Bytes.zeros(0)}, {7, Bytes.zeros(12)}, {8, Bytes.one(0)}, {9, Bytes.zeros(8)},
            {10, Bytes.zeros(0)}, {11, Bytes.zeros(2)}, {12, Bytes.join(Bytes.text(""), Bytes.zeros(12))}, {13, Bytes.text("")},
                {14, Bytes.text("")}, {15, Bytes.scoped("", Bytes.doc())}, {16, Bytes.zeros(4)},
            {17, Bytes.zeros(8)}, {18, Bytes.zeros(8)}, {19, Bytes.zeros(16)}, {127, Bytes.zeros(0)}, {255, Bytes.zeros(0)}};
        for (Object[] pair : least) {
            int type = (Integer) pair[0];
            byte[] value = (byte[]) pair[1];
            byte[] due = Bytes.doc(A, Bytes.el(type, "bb", value), C);
            with("type " + type, A, B, C).first("go(0, 1)").tape(value).due("value(0, " + type + ")", due.length).holds(0, due)
                .looks(0, due.length, 1, 3, 0, 0, 1, 11, type, 2, 15, value.length);
            with("a byte more of " + type, A, B, C).first("go(0, 1)").tape(value, Bytes.zeros(1)).faulty("value(0, " + type + ")", 9, value.length);
            byte[] rowDue = row(Bytes.el(10, "0"), Bytes.el(type, "1", value));
            inRow("in a row", 2).first("go(0, 1)").tape(value).due("value(0, " + type + ")", rowDue.length).holds(0, rowDue);
        }
        with("the greatest", A).tape(Bytes.binary(0, Bytes.zeros(1995))).due("value(0, 5)", 5 + 3 + 2000).due("look(0, 10)", 2000).tape()
            .due("value(0, 10)", 8);
        EDGES.says("Promise 17", "The CURSOR stays at the ELEMENT.");
        Run r = with("", A, Bytes.el(3, "d", Bytes.doc(B, C))).first("go(0, 1)", "in(0)", "go(0, 1)").tape(Bytes.doc(A, A)).due("value(0, 3)", 46)
            .due("look(0, 5)", 1).due("look(0, 1)", 2).due("in(0)", true).due("look(0, 2)", 2);
        r.due("out(0)", true).due("out(0)", true).tape().due("value(0, 10)", 15).due("look(0, 5)", 1).idle("in(0)", false);
    }

    private static void valueFaults() {
        EDGES.says("Promise 17",
            "NoSuchElementException: it is at none; IllegalArgumentException: a FAULT; UnsupportedOperationException: BIG. (So below.)");
        EDGES.run("at none").tape(Bytes.i32(1)).idle("value(0, 16)", Run.NO_ELEMENT);
        with("at none, inside", A, Bytes.el(3, "d", Bytes.doc())).first("go(0, 1)", "in(0)").tape().idle("value(0, 10)", Run.NO_ELEMENT);
        with("a fault", A, B).tape().faulty("value(0, 16)", 1, 0).tape(Bytes.zeros(3)).faulty("value(0, 16)", 1, 0).tape(Bytes.one(2))
            .faulty("value(0, 8)", 7, 0).tape(Bytes.hex("61 00 FF 00")).faulty("value(0, 11)", 5, 2);
        with("a row's names", A).tape(Bytes.doc(Bytes.el(10, "1"))).faulty("value(0, 4)", 6, 5).due("value(0, 10)", 8);
        inRow("names of a row in a row", 3).tape(Bytes.doc(Bytes.el(10, "1"))).faulty("value(0, 4)", 6, 5).tape(Bytes.doc(Bytes.el(10, "1")))
            .due("value(0, 3)", 33);
        for (int type : new int[] {3, 4, 15}) {
            byte[] one = type == 15 ? Bytes.scoped("", Bytes.doc()) : Bytes.doc();
            byte[] two = Bytes.doc(Bytes.el(3, "0", Bytes.doc()));
            byte[] inside = type == 15 ? Bytes.scoped("", two) : two;
            int ahead = type == 15 ? 9 : 0;
            Run r = EDGES.run("depths").take(0, Bytes.nest(24)).tape(Bytes.zeros(22)).due("path(0)", 23).tape(inside)
                .faulty("value(0, " + type + ")", 8, ahead + 7);
            r.tape(one).due("value(0, " + type + ")", 166 + ahead).due("total(0, 1)", 24).due("in(0)", true)
                .tape(type == 4 ? Bytes.zeros(0) : Bytes.nm("n")).due("put(0, 0, 10)", 169 + ahead);
            r.tape(one).faulty("value(0, " + type + ")", 8, ahead).tape(one, Bytes.zeros(1)).faulty("value(0, " + type + ")", 8, ahead);
        }
        EDGES.run("8 ahead of 1").take(0, Bytes.nest(24)).tape(Bytes.zeros(22)).due("path(0)", 23).first("in(0)").tape(Bytes.nm("n"))
            .due("put(0, 0, 10)", 169).tape().faulty("value(0, 3)", 8, 0).faulty("value(0, 15)", 1, 0);
    }

    private static void valueBig() {
        for (int size = 2391; size <= 2397; size++) {
            Run r = EDGES.run("from " + size).fill(0, size, Bytes.el(10, "n"), Bytes.el(10, "e")).tape(Bytes.i64(1));
            if (size + 8 > 2400) {
                r.big("value(0, 18)");
            } else {
                r.due("value(0, 18)", size + 8).due("number(0)", 1);
            }
        }
        Run s = EDGES.run("a smaller one in a full one").fill(0, 2400, Bytes.el(9, "n", Bytes.i64(1))).tape(Bytes.i64(2)).due("value(0, 18)", 2400)
            .tape(Bytes.zeros(12)).big("value(0, 7)").tape(Bytes.i32(2)).due("value(0, 16)", 2396);
        s.tape(Bytes.zeros(9)).faulty("value(0, 18)", 9, 8);
        EDGES.run("far too big").fill(0, 2400, Bytes.el(10, "n")).tape(Bytes.binary(0, Bytes.zeros(1995))).big("value(0, 5)");
    }

    // ---- promise 18

    private static void puts() {
        Run r = EDGES.says("Promise 18",
            "all of it is a NAME (not in a ROW) and a VALUE of that type: a new ELEMENT, number i (those from there on are one more): how many bytes.");
        r.tape(Bytes.nm("bb")).due("put(0, 0, 10)", 9).tape(Bytes.nm("a"), Bytes.i32(1)).due("put(0, 0, 16)", 16).tape(Bytes.nm("d"))
            .due("put(0, 2, 6)", 19).tape(Bytes.nm("c"), Bytes.one(1)).due("put(0, 2, 8)", 23);
        r.holds(0, Bytes.doc(A, B, C, D)).tape(Bytes.nm("")).due("put(0, 4, 255)", 25).holds(0, Bytes.doc(A, B, C, D, Bytes.el(255, "")));
        with("nothing on the tape", A).tape().faulty("put(0, 0, 10)", 1, 0);
        with("a name without its 0", A).tape(Bytes.raw("n")).faulty("put(0, 0, 10)", 1, 0);
        with("a name that is none", A).tape(Bytes.hex("6180 00")).faulty("put(0, 0, 10)", 5, 1);
        with("a value cut", A).tape(Bytes.nm("nn"), Bytes.zeros(3)).faulty("put(0, 0, 16)", 1, 3);
        with("left over", A).tape(Bytes.nm("nn"), Bytes.zeros(5)).faulty("put(0, 0, 16)", 9, 7).tape(Bytes.nm("nn"), Bytes.zeros(1))
            .faulty("put(0, 0, 10)", 9, 3);
        with("the whole tape", A).tape(Bytes.nm("n".repeat(1999))).due("put(0, 1, 10)", 2013).due("look(0, 8)", 1999);
        for (int count : new int[] {0, 1, 2}) {
            Run row = inRow("in a row", count).tape(Bytes.nm("0")).faulty("put(0, 0, 10)", 9, 0).tape(Bytes.nm("0"), Bytes.i32(1))
                .faulty("put(0, 0, 16)", 9, 4).tape(Bytes.zeros(3)).faulty("put(0, 0, 16)", 1, 0);
            row.tape(Bytes.i32(5)).due("put(0, " + count + ", 16)", 16 + 3 * count + 7).due("number(0)", 5).due("look(0, 8)", 1);
        }
        with("a scope's document is no row", Bytes.el(15, "s", Bytes.scoped("", Bytes.doc()))).first("in(0)").tape(Bytes.nm("k"))
            .due("put(0, 0, 10)", 25);
        EDGES.run("depth").take(0, Bytes.nest(24)).tape(Bytes.zeros(22)).due("path(0)", 23).tape(Bytes.nm("ab"), Bytes.doc())
            .due("put(0, 0, 3)", 166 + 9).first("in(0)").tape(Bytes.nm("ab"), Bytes.doc()).faulty("put(0, 0, 3)", 8, 3)
            .tape(Bytes.nm("ab"), Bytes.scoped("", Bytes.doc())).faulty("put(0, 0, 15)", 8, 12).tape(Bytes.nm("ab")).faulty("put(0, 0, 3)", 8, 3)
            .tape(Bytes.nm("ab")).due("put(0, 0, 10)", 179);
    }

    private static void putNumbers() {
        EDGES.says("Promise 18", "The CURSOR is at it.");
        for (int i = 0; i <= 4; i++) {
            with("at " + i, A, B, C, D).first("go(0, 2)").tape(Bytes.nm("n"), Bytes.i64(77)).due("put(0, " + i + ", 18)", 34).due("look(0, 5)", i)
                .due("number(0)", 77);
        }
        EDGES.says("Promise 18", "NoSuchElementException: i is not 0 .. how many ELEMENTS there are.");
        for (int i : new int[] {-1, 5, 6, LEAST, GREATEST}) {
            with("i is " + i, A, B, C, D).tape(Bytes.nm("n")).idle("put(0, " + i + ", 10)", Run.NO_ELEMENT);
        }
        for (int i : new int[] {-1, 1, 2, LEAST, GREATEST}) {
            EDGES.run("of none, i is " + i).tape(Bytes.nm("n")).idle("put(0, " + i + ", 10)", Run.NO_ELEMENT);
        }
        with("of the document in which it stands", A, B, Bytes.el(3, "d", Bytes.doc())).first("go(0, 2)", "in(0)").tape(Bytes.nm("n"))
            .idle("put(0, 1, 10)", Run.NO_ELEMENT).tape(Bytes.nm("n")).due("put(0, 0, 10)", 27);
        inRow("a row", 10).tape().idle("put(0, 11, 10)", Run.NO_ELEMENT).due("put(0, 10, 10)", 50);
    }

    private static void putBig() {
        for (int size = 2395; size <= 2398; size++) {
            Run r = EDGES.run("from " + size).fill(0, size, Bytes.el(10, "a")).tape(Bytes.nm("nn"));
            if (size + 4 > 2400) {
                r.big("put(0, 3, 10)");
            } else {
                r.due("put(0, 3, 10)", size + 4).due("look(0, 5)", 3);
            }
        }
        // The eleventh name has two bytes, whichever number the new element has: four bytes more.
        byte[] ten = Bytes.el(4, "r", Bytes.row(10, new byte[10][0]));
        for (int i : new int[] {0, 5, 10}) {
            EDGES.run("a row to 2400").fill(0, 2396, ten).first("in(0)", "end(0)").due("put(0, " + i + ", 10)", 2400).due("look(0, 5)", i);
            EDGES.run("a row to 2401").fill(0, 2397, ten).first("in(0)", "end(0)").big("put(0, " + i + ", 10)");
        }
        EDGES.run("as many as a shelf can have").take(0, Bytes.doc(Bytes.hex("0A00".repeat(997))))
            .tape(Bytes.nm(""), Bytes.doc(Bytes.hex("0A00".repeat(197)))).due("put(0, 997, 3)", 2400).due("look(0, 2)", 998)
            .due("total(0, 0)", 1195).tape(Bytes.nm("")).big("put(0, 0, 10)");
    }

    /** The row lies last: from size to size another of its own bytes is the first that has no room any more. */
    private static void putBigInLastRow() {
        byte[] row = Bytes.el(4, "r", Bytes.row(10, new byte[50][0]));
        for (int size = 2379; size <= 2400; size++) {
            Run r = EDGES.run("a last row from " + size).take(0, Bytes.doc(Bytes.el(5, "f", Bytes.binary(0, Bytes.zeros(1000))), row));
            r.tape(Bytes.nm("g"), Bytes.binary(0, Bytes.zeros(size - 1013 - row.length - 8))).due("put(0, 0, 5)", size);
            r.first("go(0, 2)", "in(0)").tape(Bytes.zeros(16));
            if (size + 20 > 2400) {
                r.big("put(0, 0, 19)");
            } else {
                r.due("put(0, 0, 19)", size + 20).due("look(0, 2)", 51);
            }
        }
    }

    // ---- promise 19

    private static void names() {
        Run r = EDGES.says("Promise 19", "all of it is a NAME (with its 0), which the ELEMENT has then: how many bytes.").take(0, Bytes.doc(A, B, C))
            .first("go(0, 1)");
        r.tape(Bytes.nm("")).due("name(0)", 18).holds(0, Bytes.doc(A, Bytes.el(10, ""), C)).tape(Bytes.nm("xyz")).due("name(0)", 21)
            .holds(0, Bytes.doc(A, Bytes.el(10, "xyz"), C)).tape(Bytes.nm("xyz")).due("name(0)", 21);
        r.latest(NONE, 0, 0, 0).due("look(0, 5)", 1).tape(Bytes.nm("a")).due("name(0)", 19).tape(Bytes.raw("a")).due("find(0)", 0);
        with("the longest", A).tape(Bytes.nm("n".repeat(1999))).due("name(0)", 2010).due("look(0, 8)", 1999).due("number(0)", 1);
        with("faults", A).tape().faulty("name(0)", 1, 0).tape(Bytes.raw("x")).faulty("name(0)", 1, 0).tape(Bytes.hex("78 C3 00"))
            .faulty("name(0)", 5, 1).tape(Bytes.nm("x"), Bytes.zeros(1)).faulty("name(0)", 9, 2)
            .tape(Bytes.zeros(2)).faulty("name(0)", 9, 1).tape(Bytes.raw("n".repeat(700))).faulty("name(0)", 1, 0);
        EDGES.run("to 2400").fill(0, 2397, Bytes.el(10, "n")).tape(Bytes.nm("nnnn")).due("name(0)", 2400).tape(Bytes.nm("mmmm")).due("name(0)", 2400)
            .tape(Bytes.nm("mmmmm")).big("name(0)").tape(Bytes.nm("")).due("name(0)", 2396);
        EDGES.run("to 2401").fill(0, 2398, Bytes.el(10, "n")).tape(Bytes.nm("nnnn")).big("name(0)");
    }

    private static void nameStates() {
        EDGES.says("Promise 19", "IllegalStateException: the CURSOR stands in a ROW.");
        inRow("", 2).tape(Bytes.nm("0")).idle("name(0)", Run.STATE).tape(Bytes.nm("x")).idle("name(0)", Run.STATE).tape().idle("name(0)", Run.STATE);
        inRow("at none of it", 1).due("drop(0)", 16).tape(Bytes.nm("x")).idle("name(0)", Run.NO_ELEMENT);
        inRow("at the row itself", 2).due("out(0)", true).tape(Bytes.nm("x")).due("name(0)", 22);
        with("a document in a row", Bytes.el(4, "r", Bytes.row(3, Bytes.doc(D)))).first("in(0)", "in(0)").tape(Bytes.nm("x")).due("name(0)", 24);
        with("a scope's document in a row", Bytes.el(4, "r", Bytes.row(15, Bytes.scoped("", Bytes.doc(D))))).first("in(0)", "in(0)")
            .tape(Bytes.nm("x")).due("name(0)", 33);
        EDGES.run("at none").tape(Bytes.nm("x")).idle("name(0)", Run.NO_ELEMENT);
    }

    // ---- promises 20 and 21

    private static void drops() {
        EDGES.says("Promise 20", "The ELEMENT goes: how many bytes.");
        with("first", A, B, C, D).due("drop(0)", 16).holds(0, Bytes.doc(B, C, D));
        with("last", A, B, C, D).first("go(0, 3)").due("drop(0)", 20).holds(0, Bytes.doc(A, B, C));
        with("the only one", A).due("drop(0)", 5).holds(0, Bytes.doc());
        with("a document", A, Bytes.el(3, "d", Bytes.nest(23)), C).first("go(0, 1)").due("drop(0)", 16).holds(0, Bytes.doc(A, C));
        EDGES.run("of a full one").fill(0, 2400, A).due("drop(0)", 2393).due("byteAt(0, 2393)", NONE);
        EDGES.run("at none").idle("drop(0)", Run.NO_ELEMENT).take(0, Bytes.doc(Bytes.el(3, "d", Bytes.doc()), A)).first("in(0)")
            .idle("drop(0)", Run.NO_ELEMENT);
        EDGES.says("Promise 20", "The CURSOR is at the one that has its number then, else at the last one, else at none.");
        with("first", A, B, C).due("drop(0)", 13).due("look(0, 5)", 0).due("look(0, 7)", 10);
        with("middle", A, B, C).first("go(0, 1)").due("drop(0)", 16).due("look(0, 5)", 1).due("look(0, 7)", 8);
        with("last", A, B, C).first("go(0, 2)").due("drop(0)", 16).due("look(0, 5)", 1).due("look(0, 7)", 10).due("drop(0)", 12).due("look(0, 5)", 0)
            .due("drop(0)", 5).due("look(0, 5)", NONE).idle("drop(0)", Run.NO_ELEMENT);
        with("the only one inside", A, Bytes.el(3, "d", Bytes.doc(B))).first("go(0, 1)", "in(0)").due("drop(0)", 20).looks(0, 20, 2, 0, 14, 3, NONE)
            .due("out(0)", true).due("look(0, 5)", 1);
    }

    private static void moves() {
        EDGES.says("Promise 21",
            "The ELEMENT has number i then (the others keep their order); in a ROW its TYPE and VALUE: true. The CURSOR is at it.");
        byte[][] all = {A, B, C, D};
        for (int from = 0; from < 4; from++) {
            for (int to = 0; to < 4; to++) {
                java.util.List<byte[]> order = new java.util.ArrayList<>(java.util.List.of(all));
                order.add(to, order.remove(from));
                byte[] due = Bytes.doc(order.toArray(new byte[0][]));
                with(from + " to " + to, all).first("go(0, " + from + ")").due("move(0, " + to + ")", true).holds(0, due).due("look(0, 5)", to);
            }
        }
        with("the only one", A).due("move(0, 0)", true).holds(0, Bytes.doc(A)).latest(NONE, 0, 0, 0);
        inRow("a row", 3).due("set(0, 16, 7)", 29).due("move(0, 2)", true)
            .holds(0, row(Bytes.el(10, "0"), Bytes.el(10, "1"), Bytes.el(16, "2", Bytes.i32(7)))).due("look(0, 5)", 2).due("number(0)", 7);
        inRow("a row, to itself", 12).first("go(0, 5)").due("set(0, 16, 7)", 58).due("move(0, 5)", true).latest(NONE, 0, 0, 0).due("number(0)", 7);
        byte[][] eleven = new byte[12][];
        for (int k = 0; k < 12; k++) {
            eleven[k] = Bytes.el(k == 10 ? 16 : 10, Integer.toString(k), Bytes.zeros(k == 10 ? 4 : 0));
        }
        inRow("a row, 0 to 10", 12).due("set(0, 16, 0)", 58).due("move(0, 10)", true).holds(0, row(eleven)).due("look(0, 8)", 2)
            .due("move(0, 0)", true).due("number(0)", 0).due("look(0, 8)", 1);
        EDGES.run("a full one").fill(0, 2400, A, B).due("move(0, 3)", true).due("look(0, 6)", 2392).due("number(0)", 1).due("move(0, 0)", true)
            .due("look(0, 0)", 2400);
        byte[] ten = Bytes.el(4, "r", Bytes.row(10, new byte[12][0]));
        EDGES.run("a row in a full one").fill(0, 2400, ten).first("in(0)").due("move(0, 11)", true).due("look(0, 0)", 2400).due("look(0, 5)", 11);
    }

    private static void movesRefused() {
        EDGES.says("Promise 21", "False, changing nothing, if there is no ELEMENT i.");
        for (int i : new int[] {-1, 4, 5, LEAST, GREATEST}) {
            with("to " + i, A, B, C, D).first("go(0, 2)").idle("move(0, " + i + ")", false);
            with("to " + i + ", behind a change", A, B, C, D).due("set(0, 9, 1)", 27).idle("move(0, " + i + ")", false).latest(4, 1, 4, 0);
        }
        with("of the one in which it stands", A, B, Bytes.el(3, "d", Bytes.doc(C))).first("go(0, 2)", "in(0)").idle("move(0, 1)", false);
        EDGES.run("at none").idle("move(0, 0)", Run.NO_ELEMENT).idle("move(0, -1)", Run.NO_ELEMENT)
            .take(0, Bytes.doc(Bytes.el(3, "d", Bytes.doc()), A)).first("in(0)").idle("move(0, 1)", Run.NO_ELEMENT);
    }

    // ---- promise 22

    private static void copies() {
        EDGES.says("Promise 22",
            "The ELEMENT's TYPE and VALUE become those of the ELEMENT at which the CURSOR of a shelf (perhaps the same) is: how many bytes.");
        with("the same one", A, B).due("copy(0, 0)", 16).holds(0, Bytes.doc(A, B)).latest(NONE, 0, 0, 0);
        with("nothing", A, B).take(1, Bytes.doc(D)).due("copy(0, 1)", 12).holds(0, Bytes.doc(Bytes.el(6, "a"), B)).holds(1, Bytes.doc(D));
        byte[] deep = Bytes.doc(A, Bytes.el(15, "s", Bytes.scoped("f", Bytes.row(3, Bytes.doc(B)))));
        Run r = with("a scope", A, B).take(3, deep).first("go(0, 1)", "go(3, 1)").due("copy(0, 3)", 43)
            .holds(0, Bytes.doc(A, Bytes.el(15, "bb", Bytes.scoped("f", Bytes.row(3, Bytes.doc(B)))))).holds(3, deep);
        r.due("look(0, 5)", 1).due("look(3, 5)", 1).due("in(0)", true).due("in(0)", true).due("look(0, 1)", 3).first("in(3)").due("copy(3, 0)", 33)
            .due("look(3, 7)", 10);
        inRow("into a row", 11).take(2, Bytes.doc(A)).first("go(0, 10)").due("copy(0, 2)", 54).due("number(0)", 1).due("look(0, 8)", 2);
        EDGES.run("to 2400").fill(0, 2392, Bytes.el(10, "n")).take(1, Bytes.doc(Bytes.el(18, "v", Bytes.i64(1)))).due("copy(0, 1)", 2400)
            .due("number(0)", 1);
        EDGES.run("to 2401").fill(0, 2393, Bytes.el(10, "n")).take(1, Bytes.doc(Bytes.el(18, "v", Bytes.i64(1)))).big("copy(0, 1)");
        EDGES.run("in a full one").fill(0, 2400, Bytes.el(10, "n")).take(1, Bytes.doc(D, C)).due("copy(0, 1)", 2400).due("look(0, 7)", 6)
            .first("go(1, 1)").big("copy(0, 1)").due("copy(1, 0)", 11);
    }

    private static void copiesRefused() {
        EDGES.says("Promise 22", "IndexOutOfBoundsException, NoSuchElementException: of either one;");
        for (int s : new int[] {-1, 4, LEAST, GREATEST}) {
            with("", A).idle("copy(" + s + ", 0)", Run.NO_SHELF).idle("copy(0, " + s + ")", Run.NO_SHELF).idle("copy(1, " + s + ")", Run.NO_SHELF)
                .idle("copy(" + s + ", 1)", Run.NO_SHELF);
        }
        with("", A).idle("copy(1, 0)", Run.NO_ELEMENT).idle("copy(0, 1)", Run.NO_ELEMENT).idle("copy(1, 1)", Run.NO_ELEMENT)
            .idle("copy(1, 2)", Run.NO_ELEMENT);
        EDGES.says("Promise 22", "IllegalArgumentException: FAULT 8, place 0: something would have DEPTH 25.");
        // The innermost document of the value has as many levels as told; the element lies at depth 22.
        for (int type : new int[] {3, 4, 15}) {
            for (int levels = 1; levels <= 4; levels++) {
                byte[] d = Bytes.doc();
                for (int k = 1; k < levels; k++) {
                    d = Bytes.doc(Bytes.el(3, "0", d), Bytes.el(10, "1"));
                }
                byte[] value = type == 15 ? Bytes.scoped("", d) : d;
                Run r = EDGES.run(levels + " levels of " + type).take(0, Bytes.nest(23)).tape(Bytes.zeros(21)).due("path(0)", 22)
                    .take(1, Bytes.doc(Bytes.el(type, "v", value)));
                if (levels > 2) {
                    r.faulty("copy(0, 1)", 8, 0);
                } else {
                    r.due("copy(0, 1)", 159 - 5 + value.length).due("total(0, 1)", 22 + levels).fault(0, NONE);
                }
            }
        }
        EDGES.run("no document, at depth 24").take(0, Bytes.nest(24)).tape(Bytes.zeros(22)).due("path(0)", 23).first("in(0)").tape(Bytes.nm("n"))
            .due("put(0, 0, 10)", 169).take(1, Bytes.doc(A, Bytes.el(3, "d", Bytes.doc())))
            .due("copy(0, 1)", 173).first("go(1, 1)").faulty("copy(0, 1)", 8, 0).due("number(0)", 1);
        EDGES.run("the same one at the greatest depth").take(0, Bytes.nest(24)).due("copy(0, 0)", 166).tape(Bytes.zeros(22)).due("path(0)", 23)
            .due("copy(0, 0)", 166).fault(0, NONE);
    }

    // ---- promise 23

    private static void sets() {
        EDGES.says("Promise 23",
            "The ELEMENT is of a type 1, 8, 9, 16, 17, 18 then, and v its VALUE (as number() tells it; of 16 the lowest 32 bits): how many bytes.");
        long[] numbers = {0, 1, -1, 255, 256, GREATEST, LEAST, GREATEST + 1L, LEAST - 1L, 1L << 32, (1L << 32) + 7, -1L << 32, 0x123456789ABCDEF0L,
            Long.MAX_VALUE, Long.MIN_VALUE};
        for (long v : numbers) {
            for (int type : new int[] {1, 9, 17, 18}) {
                with(v + "", B, Bytes.el(2, "t", Bytes.text("abc")), C).first("go(0, 1)").due("set(0, " + type + ", " + v + ")", 24)
                    .due("number(0)", v).holds(0, Bytes.doc(B, Bytes.el(type, "t", Bytes.i64(v)), C)).due("look(0, 5)", 1);
            }
            with(v + "", B, Bytes.el(2, "t", Bytes.text("abc")), C).first("go(0, 1)").due("set(0, 16, " + v + ")", 20).due("number(0)", (int) v)
                .holds(0, Bytes.doc(B, Bytes.el(16, "t", Bytes.i32((int) v)), C));
        }
        with("8", B, A, C).first("go(0, 1)").due("set(0, 8, 1)", 17).due("number(0)", 1).holds(0, Bytes.doc(B, Bytes.el(8, "a", Bytes.one(1)), C))
            .due("set(0, 8, 0)", 17).due("number(0)", 0);
        inRow("in a row", 11).first("go(0, 10)").due("set(0, 9, -1)", 58).due("number(0)", -1).due("look(0, 8)", 2);
        EDGES.run("at none").idle("set(0, 16, 1)", Run.NO_ELEMENT).idle("set(0, 8, 2)", Run.NO_ELEMENT);
    }

    private static void setFaults() {
        EDGES.says("Promise 23", "FAULT 7, place 0: of 8, v is neither 0 nor 1.");
        for (long v : new long[] {2, 3, -1, 255, 256, 257, 1L << 32, (1L << 32) + 1, -1L << 32, Long.MIN_VALUE, Long.MIN_VALUE + 1, Long.MAX_VALUE}) {
            with(v + "", A).faulty("set(0, 8, " + v + ")", 7, 0);
        }
        with("others may", A).due("set(0, 16, 2)", 12).due("set(0, 1, 2)", 16).fault(0, NONE);
        with("3 is told of a type that is none", A).faulty("set(0, 7, 2)", 3, 0).faulty("set(0, 264, 2)", 3, 0);
    }

    private static void setBig() {
        int[][] sizes = {{8, 1}, {16, 4}, {1, 8}, {9, 8}, {17, 8}, {18, 8}};
        for (int[] pair : sizes) {
            EDGES.run("to 2400").fill(0, 2400 - pair[1], Bytes.el(10, "n")).due("set(0, " + pair[0] + ", 1)", 2400).due("number(0)", 1);
            EDGES.run("to 2401").fill(0, 2401 - pair[1], Bytes.el(10, "n")).big("set(0, " + pair[0] + ", 1)");
        }
    }

    // ---- promise 24

    private static void latestPlace() {
        EDGES.says("Promise 24",
            "what 0: the first place at which the shelf's DOCUMENT has another byte than ahead of it, or no byte any more, or none before;");
        with("a value's type", A, B).due("set(0, 9, 1)", 20).latest(4, 1, 4, 0);
        with("a value's first byte", A, B).due("set(0, 16, 2)", 16).latest(7, 0, 0, 0);
        with("a value's last byte", A, B).due("set(0, 16, " + (1 + (1 << 24)) + ")", 16).latest(10, 0, 0, 0);
        with("a value's own length", Bytes.el(2, "t", Bytes.text("ab"))).tape(Bytes.text("abc")).due("value(0, 2)", 16).latest(7, 1, 1, 0);
        with("a text's last byte", Bytes.el(2, "t", Bytes.text("ab"))).tape(Bytes.text("ac")).due("value(0, 2)", 15).latest(12, 0, 0, 0);
        with("a name", A, B, C).first("go(0, 1)").tape(Bytes.nm("bc")).due("name(0)", 20).latest(13, 0, 0, 0).tape(Bytes.nm("b")).due("name(0)", 19)
            .latest(13, 1, -1, 0).tape(Bytes.nm("bx")).due("name(0)", 20).latest(13, 1, 1, 0);
        with("put at the end", A).tape(Bytes.nm("bb")).due("put(0, 1, 10)", 16).latest(11, 1, 4, 0);
        with("put ahead of an equal one", D, D).tape(Bytes.nm("d")).due("put(0, 0, 6)", 14).latest(10, 1, 3, 0);
        with("drop ahead of equal ones", D, D, D).due("drop(0)", 11).latest(10, 1, -3, 0);
        with("drop the last one", A, D).first("go(0, 1)").due("drop(0)", 12).latest(11, 1, -3, 0);
        with("drop the only one", D).due("drop(0)", 5).latest(4, 1, -3, 0);
        with("move over equal ones", D, D, D, A).due("move(0, 2)", true).latest(NONE, 0, 0, 0).due("move(0, 3)", true).latest(10, 0, 0, 0);
        inRow("drop in a row", 3).due("drop(0)", 22).latest(17, 2, -3, 0);
        EDGES.says("Promise 24",
            "the LENGTHS of the DOCUMENTS in which the ELEMENT is, and of VALUES of TYPE 15 in which it is, aside (NONE, if there is none);");
        with("a scope around", Bytes.el(15, "s", Bytes.scoped("", Bytes.doc(A)))).first("in(0)").due("set(0, 9, 1)", 33).latest(20, 3, 4, 0);
        with("lengths behind it are not aside", Bytes.el(3, "d", Bytes.doc(Bytes.el(3, "", Bytes.doc())))).first("in(0)").tape(Bytes.doc(D))
            .due("value(0, 3)", 23).latest(13, 2, 3, 0);
        with("a scope that the element has is not aside", Bytes.el(15, "s", Bytes.scoped("", Bytes.doc()))).tape(Bytes.scoped("", Bytes.doc(D)))
            .due("value(0, 15)", 25).latest(7, 1, 3, 0);
        with("none", A, B).due("set(0, 16, 1)", 16).latest(NONE, 0, 0, 0).tape(Bytes.nm("a")).due("name(0)", 16).latest(NONE, 0, 0, 0)
            .due("copy(0, 0)", 16).latest(NONE, 0, 0, 0).due("move(0, 0)", true).latest(NONE, 0, 0, 0);
    }

    private static void latestLengths() {
        EDGES.says("Promise 24",
            "1 how many of these LENGTHS are another number than before; 2 by how many bytes it has more (below 0: fewer); 3 the shelf.");
        for (int s = 0; s < 4; s++) {
            EDGES.run("shelf " + s).take(s, Bytes.doc(A)).due("set(" + s + ", 9, 1)", 16).latest(4, 1, 4, s).due("set(" + s + ", 8, 1)", 9)
                .latest(4, 1, -7, s).due("set(" + s + ", 8, 0)", 9).latest(7, 0, 0, s);
        }
        byte[] before = Bytes.doc(Bytes.el(10, "n"));
        byte[] behind = Bytes.doc(Bytes.el(8, "n", Bytes.one(1)));
        for (int k = 1; k < 24; k++) {
            before = Bytes.doc(Bytes.el(15, "", Bytes.scoped("", before)));
            behind = Bytes.doc(Bytes.el(15, "", Bytes.scoped("", behind)));
        }
        int size = before.length;
        Run r = EDGES.run("as many as there can be").take(0, before).tape(Bytes.zeros(22)).due("path(0)", 23).due("in(0)", true);
        r.due("look(0, 1)", 24).due("set(0, 8, 1)", size + 1).latest(23 * 15 + 4, 47, 1, 0).holds(0, behind);
        r.due("set(0, 8, 0)", size + 1).latest(23 * 15 + 7, 0, 0, 0).due("drop(0)", size - 3).latest(23 * 15 + 4, 47, -4, 0);
        EDGES.run("the most more").take(0, Bytes.doc(B)).tape(Bytes.binary(0, Bytes.zeros(1995))).due("value(0, 5)", 2009).latest(4, 1, 2000, 0)
            .due("drop(0)", 5).latest(4, 1, -2004, 0);
    }

    private static void latestOfWhich() {
        EDGES.says("Promise 24",
            "Of the latest CHANGE that was made (by a call that didn't throw, of move() one that was true), on whichever shelf:");
        Run r = with("", A, B).take(1, Bytes.doc(C, D)).latest(NONE, NONE, NONE, NONE).idle("move(0, 2)", false).latest(NONE, NONE, NONE, NONE)
            .due("set(0, 16, 2)", 16).latest(7, 0, 0, 0).first("go(1, 1)");
        r.due("drop(1)", 9).latest(8, 1, -3, 1).idle("move(0, 2)", false).idle("move(1, -1)", false).idle("drop(2)", Run.NO_ELEMENT)
            .faulty("set(0, 8, 2)", 7, 0).latest(8, 1, -3, 1);
        r.take(1, Bytes.doc()).take(0, Bytes.doc(A)).latest(8, 1, -3, 1).first("begin()", "close()").due("lay(1)", 5).latest(8, 1, -3, 1)
            .due("move(0, 0)", true).latest(NONE, 0, 0, 0);
        Run s = EDGES.says("Promise 24", "NONE for another what, and ahead of any.").latest(NONE, NONE, NONE, NONE);
        for (int what : new int[] {-1, 4, 5, LEAST, GREATEST}) {
            s.due("latest(" + what + ")", NONE);
        }
        s.take(0, Bytes.doc(A)).latest(NONE, NONE, NONE, NONE).due("set(0, 16, 2)", 12);
        for (int what : new int[] {-1, 4, 5, LEAST, GREATEST}) {
            s.due("latest(" + what + ")", NONE);
        }
    }
}
