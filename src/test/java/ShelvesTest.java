/** Promises 1 and 6 to 24: shelves, cursors and changes. */
public final class ShelvesTest {
    private static final Checks CHECKS = new Checks("ShelvesTest");

    public static void main(String[] args) {
        freshObject();
        noSuchShelf();
        going();
        finding();
        paths();
        looking();
        numbers();
        totals();
        values();
        puts();
        names();
        drops();
        moves();
        copies();
        sets();
        latest();
        tooBig();
        manyElements();
        CHECKS.finish();
    }

    private static SpanShelves with(int shelf, byte[] document) {
        SpanShelves x = new SpanShelves();
        Bytes.tape(x, document);
        x.take(shelf);
        return x;
    }

    private static void holds(String what, SpanShelves x, int shelf, byte[] due) {
        CHECKS.same(what, Bytes.show(due), Bytes.show(Bytes.shelf(x, shelf)));
        Bytes.tape(x, due.length <= 2000 ? due : Bytes.doc());
        CHECKS.same(what + " (sound)", 0, x.judge());
        x.end(0);
    }

    private static void answers(String what, SpanShelves x, int shelf, int... due) {
        for (int k = 0; k < due.length; k++) {
            CHECKS.same(what + ", look(" + shelf + ", " + k + ")", due[k], x.look(shelf, k));
        }
    }

    private static void latestIs(String what, SpanShelves x, int place, int lengths, int more, int shelf) {
        CHECKS.same(what + ", latest(0)", place, x.latest(0));
        CHECKS.same(what + ", latest(1)", lengths, x.latest(1));
        CHECKS.same(what + ", latest(2)", more, x.latest(2));
        CHECKS.same(what + ", latest(3)", shelf, x.latest(3));
    }

    private static void faultIs(String what, SpanShelves x, int number, int place) {
        CHECKS.same(what + ", fault(0)", number, x.fault(0));
        CHECKS.same(what + ", fault(1)", place, x.fault(1));
    }

    private static void freshObject() {
        SpanShelves x = new SpanShelves();
        for (int shelf = 0; shelf < 4; shelf++) {
            holds("shelf " + shelf + " at first", x, shelf, Bytes.doc());
            answers("at first", x, shelf, 5, 1, 0, 0, 0, -1, -1, -1, -1, -1, -1, -1);
        }
        x = new SpanShelves();
        CHECKS.same("taped", 0, x.taped());
        CHECKS.same("sheet(0)", 0, x.sheet(0));
        faultIs("at first", x, 0, -1);
        latestIs("at first", x, -1, -1, -1, -1);
        CHECKS.same("latest(4)", -1, x.latest(4));
    }

    private static void noSuchShelf() {
        String due = "IndexOutOfBoundsException";
        for (int s : new int[] {-1, 4, Integer.MAX_VALUE, Integer.MIN_VALUE}) {
            SpanShelves x = with(0, Bytes.doc(Bytes.el(10, "a")));
            Bytes.tape(x, Bytes.nm("b"));
            CHECKS.same("go", due, Bytes.said(() -> x.go(s, 0)));
            CHECKS.same("in", due, Bytes.said(() -> x.in(s)));
            CHECKS.same("out", due, Bytes.said(() -> x.out(s)));
            CHECKS.same("look", due, Bytes.said(() -> x.look(s, 99)));
            CHECKS.same("byteAt", due, Bytes.said(() -> x.byteAt(s, 0)));
            CHECKS.same("number", due, Bytes.said(() -> x.number(s)));
            CHECKS.same("total", due, Bytes.said(() -> x.total(s, 99)));
            CHECKS.same("kinds", due, Bytes.said(() -> x.kinds(s, 99)));
            CHECKS.same("drop", due, Bytes.said(() -> x.drop(s)));
            CHECKS.same("move", due, Bytes.said(() -> x.move(s, 9)));
            CHECKS.same("copy", due, Bytes.said(() -> x.copy(s, 0)));
            CHECKS.same("copy", due, Bytes.said(() -> x.copy(0, s)));
            CHECKS.same("copy", due, Bytes.said(() -> x.copy(1, s)));
            CHECKS.same("set", due, Bytes.said(() -> x.set(s, 99, 0)));
            CHECKS.same("lay", due, Bytes.said(() -> x.lay(s)));
            CHECKS.same("these leave the tape", 2, x.taped());
            CHECKS.same("find", due, Bytes.said(() -> x.find(s)));
            CHECKS.same("find uses the tape up", 0, x.taped());
            Bytes.tape(x, Bytes.nm("b"));
            CHECKS.same("path", due, Bytes.said(() -> x.path(s)));
            CHECKS.same("path uses the tape up", 0, x.taped());
            Bytes.tape(x, Bytes.nm("b"));
            CHECKS.same("value", due, Bytes.said(() -> x.value(s, 10)));
            CHECKS.same("value uses the tape up", 0, x.taped());
            Bytes.tape(x, Bytes.nm("b"));
            CHECKS.same("put", due, Bytes.said(() -> x.put(s, 0, 10)));
            CHECKS.same("put uses the tape up", 0, x.taped());
            Bytes.tape(x, Bytes.nm("b"));
            CHECKS.same("name", due, Bytes.said(() -> x.name(s)));
            CHECKS.same("name uses the tape up", 0, x.taped());
            holds("nothing changed", x, 0, Bytes.doc(Bytes.el(10, "a")));
            latestIs("nothing changed", x, -1, -1, -1, -1);
        }
    }

    private static void going() {
        byte[] inner = Bytes.doc(Bytes.el(16, "x", Bytes.i32(1)), Bytes.el(3, "e", Bytes.doc()));
        SpanShelves x = with(1, Bytes.doc(Bytes.el(10, "a"), Bytes.el(3, "b", inner), Bytes.el(15, "c", Bytes.scoped("f", inner)),
            Bytes.el(4, "d", Bytes.row(6, new byte[2][0]))));
        CHECKS.same("in at no document", false, x.in(1));
        CHECKS.same("out of the root", false, x.out(1));
        CHECKS.same("go -1", false, x.go(1, -1));
        CHECKS.same("go 4", false, x.go(1, 4));
        CHECKS.same("stays", 0, x.look(1, 5));
        CHECKS.same("go 3", true, x.go(1, 3));
        CHECKS.same("in a row", true, x.in(1));
        answers("row", x, 1, x.look(1, 0), 2, 2, x.look(1, 3), 4, 0);
        CHECKS.same("go 1", true, x.go(1, 1));
        CHECKS.same("out", true, x.out(1));
        CHECKS.same("at the row", 3, x.look(1, 5));
        x.go(1, 2);
        CHECKS.same("in scoped", true, x.in(1));
        CHECKS.same("type around", 15, x.look(1, 4));
        CHECKS.same("go 1", true, x.go(1, 1));
        CHECKS.same("in an empty one", true, x.in(1));
        answers("empty", x, 1, x.look(1, 0), 3, 0, x.look(1, 3), 3, -1, -1, -1, -1, -1, -1);
        CHECKS.same("go in an empty one", false, x.go(1, 0));
        CHECKS.same("in from none", false, x.in(1));
        CHECKS.same("out", true, x.out(1));
        CHECKS.same("at", 1, x.look(1, 5));
        CHECKS.same("out", true, x.out(1));
        CHECKS.same("at", 2, x.look(1, 5));
        CHECKS.same("other shelves stay", -1, x.look(0, 5));
        SpanShelves y = with(0, Bytes.nest(24));
        for (int k = 1; k < 24; k++) {
            CHECKS.same("in at depth " + k, true, y.in(0));
            CHECKS.same("place", 6 * k, y.look(0, 3));
        }
        CHECKS.same("in at depth 24", false, y.in(0));
        CHECKS.same("depth", 24, y.look(0, 1));
    }

    private static int find(SpanShelves x, byte[] name) {
        Bytes.tape(x, name);
        int answer = x.find(0);
        CHECKS.same("find uses the tape up", 0, x.taped());
        return answer;
    }

    private static void finding() {
        SpanShelves x = with(0, Bytes.doc(Bytes.el(10, "ab"), Bytes.el(8, "a", Bytes.one(0)), Bytes.el(10, "a"), Bytes.el(10, "")));
        CHECKS.same("first a", 1, find(x, Bytes.raw("a")));
        CHECKS.same("at", 1, x.look(0, 5));
        CHECKS.same("ab", 0, find(x, Bytes.raw("ab")));
        CHECKS.same("empty", 3, find(x, Bytes.raw("")));
        CHECKS.same("abc", -1, find(x, Bytes.raw("abc")));
        CHECKS.same("stays", 3, x.look(0, 5));
        CHECKS.same("b", -1, find(x, Bytes.raw("b")));
        CHECKS.same("a with its 0", -1, find(x, Bytes.nm("a")));
        CHECKS.same("a with its value", -1, find(x, Bytes.hex("6100000A61")));
        CHECKS.same("2000 bytes", -1, find(x, Bytes.zeros(2000)));
        SpanShelves y = with(0, Bytes.doc(Bytes.el(3, "d", Bytes.doc(Bytes.el(10, "in"))), Bytes.el(10, "z")));
        CHECKS.same("not in an inner one", -1, find(y, Bytes.raw("in")));
        y.in(0);
        CHECKS.same("in the inner one", 0, find(y, Bytes.raw("in")));
        CHECKS.same("not in the outer one", -1, find(y, Bytes.raw("z")));
        CHECKS.same("in an empty one", -1, find(new SpanShelves(), Bytes.raw("")));
    }

    private static int path(SpanShelves x, String parts) {
        Bytes.tape(x, Bytes.raw(parts));
        int answer = x.path(0);
        CHECKS.same("path uses the tape up", 0, x.taped());
        return answer;
    }

    private static void paths() {
        byte[] deep = Bytes.doc(Bytes.el(10, "x"), Bytes.el(4, "r", Bytes.row(3, Bytes.doc(), Bytes.doc(Bytes.el(16, "", Bytes.i32(8))))));
        SpanShelves x = with(0, Bytes.doc(Bytes.el(10, "s"), Bytes.el(15, "c", Bytes.scoped("code", deep)), Bytes.el(3, "c", Bytes.doc(Bytes.el(10, "only"))),
            Bytes.el(3, "", Bytes.doc(Bytes.el(9, "", Bytes.i64(5))))));
        CHECKS.same("one part", 1, path(x, "s"));
        CHECKS.same("all four", 4, path(x, "c\0r\0" + "1\0"));
        answers("at", x, 0, x.look(0, 0), 4, 1, x.look(0, 3), 3, 0);
        CHECKS.same("number", 8L, x.number(0));
        CHECKS.same("from the root on again", 2, path(x, "c\0x"));
        CHECKS.same("way back", true, x.out(0));
        CHECKS.same("at c", 1, x.look(0, 5));
        CHECKS.same("no document at the end", 2, path(x, "c\0x\0y"));
        CHECKS.same("stays", 1, x.look(0, 5));
        CHECKS.same("stays", 1, x.look(0, 1));
        CHECKS.same("first c alone", 1, path(x, "c\0only"));
        CHECKS.same("none", 0, path(x, "q\0x"));
        CHECKS.same("an empty part", 1, path(x, ""));
        CHECKS.same("at", 3, x.look(0, 5));
        CHECKS.same("two empty parts", 2, path(x, "\0"));
        CHECKS.same("number", 5L, x.number(0));
        CHECKS.same("three empty parts", 2, path(x, "\0\0"));
        CHECKS.same("row's 2", 2, path(x, "c\0r\0" + "2"));
        changeBehindPath();
        SpanShelves y = with(0, Bytes.nest(24));
        CHECKS.same("23 parts", 23, path(y, "\0".repeat(22)));
        CHECKS.same("depth", 23, y.look(0, 1));
        CHECKS.same("24 parts", 23, path(y, "\0".repeat(23)));
        CHECKS.same("2001 parts", 23, path(y, "\0".repeat(2000)));
        byte[] bottom = Bytes.doc(Bytes.el(10, ""));
        for (int k = 1; k < 24; k++) {
            bottom = Bytes.doc(Bytes.el(3, "", bottom));
        }
        SpanShelves z = with(0, bottom);
        CHECKS.same("24 parts", 24, path(z, "\0".repeat(23)));
        CHECKS.same("depth", 24, z.look(0, 1));
        CHECKS.same("25 parts", 24, path(z, "\0".repeat(24)));
    }

    /** The way that a path leaves serves changes as one that was gone step by step. */
    private static void changeBehindPath() {
        byte[] inner = Bytes.doc(Bytes.el(10, "k"));
        SpanShelves x = with(0, Bytes.doc(Bytes.el(10, "s"), Bytes.el(15, "c", Bytes.scoped("f", Bytes.doc(Bytes.el(10, "t"), Bytes.el(15, "d", Bytes.scoped("", inner)))))));
        CHECKS.same("path", 3, path(x, "c\0d\0k"));
        x.set(0, 16, 7);
        byte[] changed = Bytes.doc(Bytes.el(16, "k", Bytes.i32(7)));
        holds("set", x, 0, Bytes.doc(Bytes.el(10, "s"), Bytes.el(15, "c", Bytes.scoped("f", Bytes.doc(Bytes.el(10, "t"), Bytes.el(15, "d", Bytes.scoped("", changed)))))));
        CHECKS.same("lengths", 5, x.latest(1));
        x.out(0);
        CHECKS.same("at d", 1, x.look(0, 5));
        x.out(0);
        CHECKS.same("at c", 1, x.look(0, 5));
    }

    private static void looking() {
        SpanShelves x = with(2, Bytes.doc(Bytes.el(10, "abc"), Bytes.el(12, "\u00e4", Bytes.join(Bytes.text("t"), Bytes.zeros(12))),
            Bytes.el(15, "c", Bytes.scoped("ff", Bytes.doc(Bytes.el(11, "", Bytes.hex("610000")))))));
        int size = x.look(2, 0);
        answers("first", x, 2, size, 1, 3, 0, 0, 0, 4, 10, 3, 9, 0, -1, -1);
        CHECKS.same("what -1", -1, x.look(2, -1));
        x.go(2, 1);
        answers("second", x, 2, size, 1, 3, 0, 0, 1, 9, 12, 2, 13, 18, -1);
        x.go(2, 2);
        answers("third", x, 2, size, 1, 3, 0, 0, 2, 31, 15, 1, 34, 21, -1);
        x.in(2);
        answers("inner", x, 2, size, 2, 1, 45, 15, 0, 49, 11, 0, 51, 3, -1);
        CHECKS.same("size", 56, size);
        CHECKS.same("byteAt(-1)", -1, x.byteAt(2, -1));
        CHECKS.same("byteAt(0)", 56, x.byteAt(2, 0));
        CHECKS.same("byteAt(size)", -1, x.byteAt(2, size));
        CHECKS.same("byteAt(last)", 0, x.byteAt(2, size - 1));
        CHECKS.same("byteAt of a high byte", 0xC3, x.byteAt(2, 10));
        CHECKS.same("byteAt greatest", -1, x.byteAt(2, Integer.MAX_VALUE));
        int[][] sizes = {{1, 8}, {6, 0}, {7, 12}, {8, 1}, {9, 8}, {16, 4}, {17, 8}, {18, 8}, {19, 16}, {127, 0}, {255, 0}};
        for (int[] pair : sizes) {
            SpanShelves y = with(0, Bytes.doc(Bytes.el(pair[0], "n", Bytes.zeros(pair[1])), Bytes.el(10, "z")));
            answers("type " + pair[0], y, 0, 11 + pair[1], 1, 2, 0, 0, 0, 4, pair[0], 1, 7, pair[1]);
            y.go(0, 1);
            CHECKS.same("behind type " + pair[0], 7 + pair[1], y.look(0, 6));
        }
        SpanShelves z = with(0, Bytes.doc(Bytes.el(5, "n", Bytes.binary(2, Bytes.hex("0100000009"))), Bytes.el(2, "t", Bytes.text("ab")), Bytes.el(10, "z")));
        CHECKS.same("binary", 10, z.look(0, 10));
        z.go(0, 1);
        CHECKS.same("text", 7, z.look(0, 10));
        CHECKS.same("text's place", 17, z.look(0, 6));
    }

    private static void numbers() {
        byte[] all = Bytes.doc(Bytes.el(1, "a", Bytes.i64(0x400921FB54442D18L)), Bytes.el(8, "b", Bytes.one(1)), Bytes.el(9, "c", Bytes.i64(Long.MIN_VALUE)),
            Bytes.el(16, "d", Bytes.i32(-2)), Bytes.el(17, "e", Bytes.i64(-1)), Bytes.el(18, "f", Bytes.i64(0x00000000FFFFFFFFL)), Bytes.el(16, "g", Bytes.i32(Integer.MIN_VALUE)));
        long[] due = {0x400921FB54442D18L, 1, Long.MIN_VALUE, -2, -1, 0xFFFFFFFFL, Integer.MIN_VALUE};
        SpanShelves x = with(3, all);
        for (int k = 0; k < due.length; k++) {
            x.go(3, k);
            CHECKS.same("number " + k, due[k], x.number(3));
        }
        byte[] others = Bytes.doc(Bytes.el(2, "", Bytes.text("")), Bytes.el(3, "", Bytes.doc()), Bytes.el(4, "", Bytes.doc()), Bytes.el(5, "", Bytes.binary(0, Bytes.zeros(8))),
            Bytes.el(6, ""), Bytes.el(7, "", Bytes.zeros(12)), Bytes.el(10, ""), Bytes.el(11, "", Bytes.zeros(2)), Bytes.el(12, "", Bytes.join(Bytes.text(""), Bytes.zeros(12))),
            Bytes.el(13, "", Bytes.text("")), Bytes.el(14, "", Bytes.text("")), Bytes.el(15, "", Bytes.scoped("", Bytes.doc())), Bytes.el(19, "", Bytes.zeros(16)),
            Bytes.el(127, ""), Bytes.el(255, ""));
        SpanShelves y = with(3, others);
        CHECKS.same("how many", 15, y.look(3, 2));
        for (int k = 0; k < 15; k++) {
            y.go(3, k);
            CHECKS.same("number of type " + y.look(3, 7), "IllegalStateException", Bytes.said(() -> y.number(3)));
        }
        CHECKS.same("number at none", "NoSuchElementException", Bytes.said(() -> y.number(0)));
    }

    private static void totals() {
        byte[] inner = Bytes.doc(Bytes.el(2, "tt", Bytes.text("abc")), Bytes.el(5, "b", Bytes.binary(2, Bytes.hex("0100000007"))), Bytes.el(12, "p", Bytes.join(Bytes.text("q"), Bytes.zeros(12))));
        byte[] scoped = Bytes.scoped("f", inner);
        byte[] row = Bytes.row(5, Bytes.binary(0, Bytes.zeros(6)));
        byte[] document = Bytes.doc(Bytes.el(15, "c", scoped), Bytes.el(4, "\u00e4", row), Bytes.el(11, "x", Bytes.hex("6162006300")), Bytes.el(13, "", Bytes.text("")));
        SpanShelves x = with(0, document);
        CHECKS.same("elements", 8, x.total(0, 0));
        CHECKS.same("depth", 2, x.total(0, 1));
        CHECKS.same("documents", 3, x.total(0, 2));
        CHECKS.same("lengths", 3 + 1 + 4 + 3, x.total(0, 3));
        int sum = document.length + inner.length + row.length + scoped.length + (4 + 2 + 2 + 1) + (5 + 1 + 6);
        CHECKS.same("their sum", sum, x.total(0, 4));
        CHECKS.same("bytes of names", 1 + 2 + 1 + 2 + 1 + 1 + 1 + 0, x.total(0, 5));
        CHECKS.same("another what", -1, x.total(0, 6));
        CHECKS.same("another what", -1, x.total(0, -1));
        x.in(0);
        CHECKS.same("wherever the cursor is", 8, x.total(0, 0));
        int[] due = new int[260];
        due[2] = due[4] = due[11] = due[12] = due[13] = due[15] = 1;
        due[5] = 2;
        for (int type = -2; type < 260; type++) {
            CHECKS.same("kinds " + type, type < 0 ? 0 : due[type], x.kinds(0, type));
        }
        CHECKS.same("elements of an empty one", 0, x.total(1, 0));
        CHECKS.same("depth of an empty one", 1, x.total(1, 1));
        CHECKS.same("documents of an empty one", 1, x.total(1, 2));
        CHECKS.same("lengths of an empty one", 1, x.total(1, 3));
        CHECKS.same("sum of an empty one", 5, x.total(1, 4));
        CHECKS.same("names of an empty one", 0, x.total(1, 5));
        CHECKS.same("depth 24", 24, with(2, Bytes.nest(24)).total(2, 1));
    }

    private static String value(SpanShelves x, int shelf, int type, byte[]... parts) {
        Bytes.tape(x, parts);
        String answer = Bytes.said(() -> x.value(shelf, type));
        CHECKS.same("value uses the tape up", 0, x.taped());
        return answer;
    }

    private static void values() {
        byte[] inner = Bytes.doc(Bytes.el(10, "a"), Bytes.el(10, "b"));
        SpanShelves x = with(1, Bytes.doc(Bytes.el(6, "u"), Bytes.el(15, "c", Bytes.scoped("f", inner)), Bytes.el(6, "v")));
        x.go(1, 1);
        x.in(1);
        x.go(1, 1);
        byte[] changed = Bytes.doc(Bytes.el(6, "u"), Bytes.el(15, "c", Bytes.scoped("f", Bytes.doc(Bytes.el(10, "a"), Bytes.el(2, "b", Bytes.text("hey"))))), Bytes.el(6, "v"));
        CHECKS.same("value", String.valueOf(changed.length), value(x, 1, 2, Bytes.text("hey")));
        holds("value", x, 1, changed);
        CHECKS.same("stays at", 1, x.look(1, 5));
        CHECKS.same("stays in", 2, x.look(1, 1));
        int place = x.look(1, 6);
        latestIs("value", x, place, 3, 8, 1);
        CHECKS.same("same value", String.valueOf(changed.length), value(x, 1, 2, Bytes.text("hey")));
        latestIs("same value", x, -1, 0, 0, 1);
        CHECKS.same("wrong type", "IllegalArgumentException", value(x, 1, 20, Bytes.zeros(9)));
        faultIs("wrong type", x, 3, 0);
        CHECKS.same("type 0", "IllegalArgumentException", value(x, 1, 0));
        CHECKS.same("type -1", "IllegalArgumentException", value(x, 1, -1));
        CHECKS.same("type 256 + 10", "IllegalArgumentException", value(x, 1, 266));
        CHECKS.same("cut", "IllegalArgumentException", value(x, 1, 16, Bytes.zeros(3)));
        faultIs("cut", x, 1, 0);
        CHECKS.same("left over", "IllegalArgumentException", value(x, 1, 16, Bytes.zeros(6)));
        faultIs("left over", x, 9, 4);
        CHECKS.same("left over of nothing", "IllegalArgumentException", value(x, 1, 10, Bytes.zeros(1)));
        faultIs("left over of nothing", x, 9, 0);
        CHECKS.same("a row's names", "IllegalArgumentException", value(x, 1, 4, Bytes.doc(Bytes.el(10, "x"))));
        faultIs("a row's names", x, 6, 5);
        holds("throws leave it", x, 1, changed);
        latestIs("throws leave it", x, -1, 0, 0, 1);
        CHECKS.same("cut", "IllegalArgumentException", value(x, 1, 15, Bytes.i32(13)));
        faultIs("cut", x, 2, 0);
        CHECKS.same("at none", "NoSuchElementException", value(x, 0, 99));
        faultIs("at none is told ahead", x, 2, 0);
        SpanShelves y = with(0, Bytes.nest(23));
        for (int k = 1; k < 22; k++) {
            y.in(0);
        }
        CHECKS.same("to depth 24", String.valueOf(Bytes.nest(24).length), value(y, 0, 3, Bytes.nest(2)));
        CHECKS.same("to depth 25", "IllegalArgumentException", value(y, 0, 3, Bytes.nest(3)));
        faultIs("to depth 25", y, 8, 12);
        y.in(0);
        y.in(0);
        CHECKS.same("depth", 24, y.look(0, 1));
        Bytes.tape(y, Bytes.nm("n"));
        CHECKS.same("put at depth 24", Bytes.nest(24).length + 3, y.put(0, 0, 10));
        CHECKS.same("document at depth 25", "IllegalArgumentException", value(y, 0, 3, Bytes.zeros(1)));
        faultIs("8 goes ahead of 1", y, 8, 0);
        CHECKS.same("scoped at depth 25", "IllegalArgumentException", value(y, 0, 15, Bytes.scoped("", Bytes.doc())));
        faultIs("scoped at depth 25", y, 8, 9);
    }

    private static String put(SpanShelves x, int shelf, int i, int type, byte[]... parts) {
        Bytes.tape(x, parts);
        String answer = Bytes.said(() -> x.put(shelf, i, type));
        CHECKS.same("put uses the tape up", 0, x.taped());
        return answer;
    }

    private static void puts() {
        SpanShelves x = new SpanShelves();
        CHECKS.same("put at 1 of none", "NoSuchElementException", put(x, 0, 1, 10, Bytes.nm("a")));
        CHECKS.same("put at -1", "NoSuchElementException", put(x, 0, -1, 10, Bytes.nm("a")));
        faultIs("no judging yet", x, 0, -1);
        CHECKS.same("put first", "8", put(x, 0, 0, 10, Bytes.nm("b")));
        latestIs("put first", x, 4, 1, 3, 0);
        CHECKS.same("put ahead", "15", put(x, 0, 0, 16, Bytes.nm("a"), Bytes.i32(7)));
        CHECKS.same("put last", "20", put(x, 0, 2, 8, Bytes.nm("cc"), Bytes.one(1)));
        holds("put", x, 0, Bytes.doc(Bytes.el(16, "a", Bytes.i32(7)), Bytes.el(10, "b"), Bytes.el(8, "cc", Bytes.one(1))));
        CHECKS.same("at it", 2, x.look(0, 5));
        CHECKS.same("put between", "23", put(x, 0, 1, 255, Bytes.nm("m")));
        CHECKS.same("at it", 1, x.look(0, 5));
        CHECKS.same("i beyond is told ahead", "NoSuchElementException", put(x, 0, 5, 99, Bytes.nm("m")));
        CHECKS.same("no type", "IllegalArgumentException", put(x, 0, 4, 99, Bytes.nm("m")));
        faultIs("no type", x, 3, 0);
        CHECKS.same("nothing", "IllegalArgumentException", put(x, 0, 0, 10));
        faultIs("nothing", x, 1, 0);
        CHECKS.same("value cut", "IllegalArgumentException", put(x, 0, 0, 16, Bytes.nm("ab"), Bytes.zeros(3)));
        faultIs("value cut", x, 1, 3);
        CHECKS.same("left over", "IllegalArgumentException", put(x, 0, 0, 10, Bytes.nm("ab"), Bytes.zeros(3)));
        faultIs("left over", x, 9, 3);
        CHECKS.same("bad name", "IllegalArgumentException", put(x, 0, 0, 10, Bytes.hex("61FF00")));
        faultIs("bad name", x, 5, 1);
        CHECKS.same("size", 23, x.look(0, 0));
        putsInRow();
    }

    private static void putsInRow() {
        byte[][] nine = new byte[9][0];
        SpanShelves x = with(0, Bytes.doc(Bytes.el(4, "r", Bytes.row(10, nine)), Bytes.el(6, "z")));
        x.in(0);
        CHECKS.same("tenth", String.valueOf(x.look(0, 0) + 3), put(x, 0, 9, 10));
        CHECKS.same("eleventh, at 0", String.valueOf(x.look(0, 0) + 8), put(x, 0, 0, 16, Bytes.i32(3)));
        CHECKS.same("at", 0, x.look(0, 5));
        CHECKS.same("name's bytes", 1, x.look(0, 8));
        x.go(0, 10);
        CHECKS.same("last name's bytes", 2, x.look(0, 8));
        CHECKS.same("a name is left over", "IllegalArgumentException", put(x, 0, 0, 10, Bytes.nm("0")));
        faultIs("a name is left over", x, 9, 0);
        byte[] row = Bytes.doc(Bytes.el(16, "0", Bytes.i32(3)), Bytes.el(10, "1"), Bytes.el(10, "2"), Bytes.el(10, "3"), Bytes.el(10, "4"), Bytes.el(10, "5"),
            Bytes.el(10, "6"), Bytes.el(10, "7"), Bytes.el(10, "8"), Bytes.el(10, "9"), Bytes.el(10, "10"));
        holds("row", x, 0, Bytes.doc(Bytes.el(4, "r", row), Bytes.el(6, "z")));
        SpanShelves y = with(0, Bytes.doc(Bytes.el(4, "r", Bytes.doc())));
        y.in(0);
        for (int k = 0; k < 130; k++) {
            put(y, 0, k / 2, 10);
        }
        holds("row of 130", y, 0, Bytes.doc(Bytes.el(4, "r", Bytes.row(10, new byte[130][0]))));
    }

    private static String name(SpanShelves x, int shelf, byte[]... parts) {
        Bytes.tape(x, parts);
        String answer = Bytes.said(() -> x.name(shelf));
        CHECKS.same("name uses the tape up", 0, x.taped());
        return answer;
    }

    private static void names() {
        SpanShelves x = with(0, Bytes.doc(Bytes.el(10, "a"), Bytes.el(16, "b", Bytes.i32(5)), Bytes.el(4, "r", Bytes.doc())));
        x.go(0, 1);
        CHECKS.same("longer", "26", name(x, 0, Bytes.nm("long")));
        holds("longer", x, 0, Bytes.doc(Bytes.el(10, "a"), Bytes.el(16, "long", Bytes.i32(5)), Bytes.el(4, "r", Bytes.doc())));
        latestIs("longer", x, 8, 1, 3, 0);
        CHECKS.same("at", 1, x.look(0, 5));
        CHECKS.same("empty", "22", name(x, 0, Bytes.nm("")));
        latestIs("empty", x, 8, 1, -4, 0);
        CHECKS.same("no 0", "IllegalArgumentException", name(x, 0, Bytes.raw("x")));
        faultIs("no 0", x, 1, 0);
        CHECKS.same("nothing", "IllegalArgumentException", name(x, 0));
        CHECKS.same("left over", "IllegalArgumentException", name(x, 0, Bytes.nm("x"), Bytes.nm("y")));
        faultIs("left over", x, 9, 2);
        CHECKS.same("bad sign", "IllegalArgumentException", name(x, 0, Bytes.hex("C08000")));
        faultIs("bad sign", x, 5, 0);
        CHECKS.same("size", 22, x.look(0, 0));
        CHECKS.same("at none", "NoSuchElementException", name(x, 1, Bytes.nm("x")));
        x.go(0, 2);
        x.in(0);
        CHECKS.same("at none of a row", "NoSuchElementException", name(x, 0, Bytes.nm("x")));
        put(x, 0, 0, 10);
        faultIs("put", x, 0, -1);
        CHECKS.same("in a row", "IllegalStateException", name(x, 0, Bytes.raw("x")));
        faultIs("in a row is told ahead", x, 0, -1);
    }

    private static void drops() {
        SpanShelves x = with(0, Bytes.doc(Bytes.el(10, "a"), Bytes.el(16, "b", Bytes.i32(5)), Bytes.el(6, "c")));
        Bytes.tape(x, Bytes.nm("kept"));
        x.go(0, 1);
        CHECKS.same("middle", 11, x.drop(0));
        CHECKS.same("at the next one", 1, x.look(0, 5));
        CHECKS.same("its type", 6, x.look(0, 7));
        latestIs("middle", x, 7, 1, -7, 0);
        CHECKS.same("last", 8, x.drop(0));
        CHECKS.same("at the last one", 0, x.look(0, 5));
        CHECKS.same("only one", 5, x.drop(0));
        CHECKS.same("at none", -1, x.look(0, 5));
        CHECKS.same("at none", "NoSuchElementException", Bytes.said(() -> x.drop(0)));
        latestIs("only one", x, 4, 1, -3, 0);
        CHECKS.same("the tape stays", 5, x.taped());
        holds("empty", x, 0, Bytes.doc());
        SpanShelves y = with(0, Bytes.doc(Bytes.el(4, "r", Bytes.row(10, new byte[12][0])), Bytes.el(6, "z")));
        y.in(0);
        y.go(0, 4);
        CHECKS.same("in a row", 54 - 4, y.drop(0));
        holds("row", y, 0, Bytes.doc(Bytes.el(4, "r", Bytes.row(10, new byte[11][0])), Bytes.el(6, "z")));
        CHECKS.same("at", 4, y.look(0, 5));
        SpanShelves z = with(0, Bytes.doc(Bytes.el(10, "x"), Bytes.el(10, "x"), Bytes.el(10, "xy")));
        z.drop(0);
        latestIs("equal bytes follow", z, 9 - 3 + 3, 1, -3, 0);
    }

    private static void moves() {
        byte[] a = Bytes.el(16, "a", Bytes.i32(1));
        byte[] b = Bytes.el(10, "bb");
        byte[] c = Bytes.el(8, "c", Bytes.one(1));
        byte[] d = Bytes.el(6, "d");
        SpanShelves x = with(0, Bytes.doc(a, b, c, d));
        CHECKS.same("to -1", false, x.move(0, -1));
        CHECKS.same("to 4", false, x.move(0, 4));
        latestIs("false is no change", x, -1, -1, -1, -1);
        CHECKS.same("to itself", true, x.move(0, 0));
        latestIs("to itself", x, -1, 0, 0, 0);
        CHECKS.same("to 2", true, x.move(0, 2));
        holds("to 2", x, 0, Bytes.doc(b, c, a, d));
        CHECKS.same("at", 2, x.look(0, 5));
        latestIs("to 2", x, 4, 0, 0, 0);
        CHECKS.same("to 3", true, x.move(0, 3));
        holds("to 3", x, 0, Bytes.doc(b, c, d, a));
        CHECKS.same("to 1", true, x.move(0, 1));
        holds("to 1", x, 0, Bytes.doc(b, a, c, d));
        latestIs("to 1", x, 8, 0, 0, 0);
        CHECKS.same("at none", "NoSuchElementException", Bytes.said(() -> x.move(1, 9)));
        byte[][] many = new byte[12][0];
        SpanShelves y = with(0, Bytes.doc(Bytes.el(4, "r", Bytes.row(10, many))));
        y.in(0);
        y.set(0, 16, 77);
        CHECKS.same("in a row", true, y.move(0, 10));
        CHECKS.same("at", 10, y.look(0, 5));
        CHECKS.same("name", 2, y.look(0, 8));
        CHECKS.same("number", 77L, y.number(0));
        latestIs("in a row", y, 11, 0, 0, 0);
        CHECKS.same("back", true, y.move(0, 0));
        CHECKS.same("number", 77L, y.number(0));
        y.set(0, 9, 0);
        Bytes.tape(y);
        y.value(0, 10);
        holds("row", y, 0, Bytes.doc(Bytes.el(4, "r", Bytes.row(10, many))));
    }

    private static void copies() {
        SpanShelves x = with(0, Bytes.doc(Bytes.el(10, "a"), Bytes.el(3, "d", Bytes.doc(Bytes.el(10, "k")))));
        Bytes.tape(x, Bytes.doc(Bytes.el(10, "p"), Bytes.el(2, "q", Bytes.text("text"))));
        x.take(3);
        x.go(3, 1);
        x.go(0, 1);
        x.in(0);
        Bytes.tape(x, Bytes.one(7));
        CHECKS.same("from another shelf", 28, x.copy(0, 3));
        CHECKS.same("the tape stays", 1, x.taped());
        holds("copy", x, 0, Bytes.doc(Bytes.el(10, "a"), Bytes.el(3, "d", Bytes.doc(Bytes.el(2, "k", Bytes.text("text"))))));
        latestIs("copy", x, 14, 2, 9, 0);
        CHECKS.same("the source's cursor stays", 1, x.look(3, 5));
        CHECKS.same("from itself", 28, x.copy(0, 0));
        latestIs("from itself", x, -1, 0, 0, 0);
        x.out(0);
        CHECKS.same("a document", 28, x.copy(3, 0));
        holds("a document", x, 3, Bytes.doc(Bytes.el(10, "p"), Bytes.el(3, "q", Bytes.doc(Bytes.el(2, "k", Bytes.text("text"))))));
        CHECKS.same("to none", "NoSuchElementException", Bytes.said(() -> x.copy(1, 0)));
        CHECKS.same("from none", "NoSuchElementException", Bytes.said(() -> x.copy(0, 1)));
        SpanShelves y = with(0, Bytes.nest(24));
        Bytes.tape(y, Bytes.doc(Bytes.el(3, "s", Bytes.nest(2)), Bytes.el(15, "t", Bytes.scoped("", Bytes.nest(2)))));
        y.take(1);
        for (int k = 1; k < 22; k++) {
            y.in(0);
        }
        for (int k = 0; k < 2; k++) {
            y.go(1, k);
            CHECKS.same("to depth 24", Bytes.nest(24).length + 9 * k, y.copy(0, 1));
            faultIs("to depth 24", y, 0, -1);
        }
        y.in(0);
        for (int k = 0; k < 2; k++) {
            y.go(1, k);
            CHECKS.same("to depth 25", "IllegalArgumentException", Bytes.said(() -> y.copy(0, 1)));
            faultIs("to depth 25", y, 8, 0);
        }
        CHECKS.same("at none is told ahead", "NoSuchElementException", Bytes.said(() -> y.copy(0, 2)));
        faultIs("at none is told ahead", y, 8, 0);
        y.set(0, 16, 0);
        faultIs("set judges, too", y, 0, -1);
    }

    private static void sets() {
        SpanShelves x = with(0, Bytes.doc(Bytes.el(2, "a", Bytes.text("t")), Bytes.el(10, "z")));
        Bytes.tape(x, Bytes.one(7));
        int[][] widths = {{1, 8}, {8, 1}, {9, 8}, {16, 4}, {17, 8}, {18, 8}};
        for (int[] pair : widths) {
            CHECKS.same("set " + pair[0], 11 + pair[1], x.set(0, pair[0], 1));
            CHECKS.same("type", pair[0], x.look(0, 7));
            CHECKS.same("number", 1L, x.number(0));
        }
        CHECKS.same("the tape stays", 1, x.taped());
        x.set(0, 16, 0x1234567880000001L);
        CHECKS.same("lowest 32 bits", (long) 0x80000001, x.number(0));
        for (int type : new int[] {1, 9, 17, 18}) {
            x.set(0, type, 0x8877665544332211L);
            CHECKS.same("all 64 bits", 0x8877665544332211L, x.number(0));
        }
        holds("set", x, 0, Bytes.doc(Bytes.el(18, "a", Bytes.hex("1122334455667788")), Bytes.el(10, "z")));
        x.set(0, 8, 0);
        for (int type = -1; type < 300; type++) {
            int t = type;
            if (type != 1 && type != 8 && type != 9 && (type < 16 || type > 18)) {
                CHECKS.same("set " + type, "IllegalArgumentException", Bytes.said(() -> x.set(0, t, 2)));
                faultIs("set " + type, x, 3, 0);
            }
        }
        for (long v : new long[] {-1, 2, 256, 1L << 32, (1L << 32) + 1, Long.MIN_VALUE}) {
            CHECKS.same("set 8", "IllegalArgumentException", Bytes.said(() -> x.set(0, 8, v)));
            faultIs("set 8", x, 7, 0);
        }
        CHECKS.same("number", 0L, x.number(0));
        CHECKS.same("at none", "NoSuchElementException", Bytes.said(() -> x.set(1, 99, 2)));
        faultIs("at none is told ahead", x, 7, 0);
        x.set(0, 9, 5);
        faultIs("without one", x, 0, -1);
    }

    private static void latest() {
        byte[] inner = Bytes.doc(Bytes.el(15, "s", Bytes.scoped("f", Bytes.row(16, Bytes.i32(1)))));
        byte[] document = Bytes.doc(Bytes.el(4, "r", Bytes.row(15, Bytes.scoped("", inner))));
        SpanShelves x = with(2, document);
        x.in(2);
        x.in(2);
        x.in(2);
        CHECKS.same("depth", 4, x.look(2, 1));
        int place = x.look(2, 6);
        x.set(2, 9, 1);
        latestIs("two scopes around", x, place, 6, 4, 2);
        x.set(2, 9, 256);
        latestIs("same size", x, x.look(2, 9), 0, 0, 2);
        x.set(2, 9, 257L + (1L << 40));
        latestIs("first byte of several", x, x.look(2, 9), 0, 0, 2);
        x.set(2, 9, 257L);
        latestIs("sixth byte", x, x.look(2, 9) + 5, 0, 0, 2);
        CHECKS.same("latest(-1)", -1, x.latest(-1));
        CHECKS.same("latest(4)", -1, x.latest(4));
        Bytes.tape(x, Bytes.doc());
        x.take(2);
        latestIs("take is no change", x, place + 3 + 5, 0, 0, 2);
        put(x, 0, 0, 10, Bytes.nm("a"));
        latestIs("another shelf", x, 4, 1, 3, 0);
        CHECKS.same("a throw", "IllegalArgumentException", put(x, 2, 0, 10));
        latestIs("a throw is no change", x, 4, 1, 3, 0);
        SpanShelves y = with(0, Bytes.doc(Bytes.el(3, "a", Bytes.doc()), Bytes.el(10, "b")));
        value(y, 0, 3, Bytes.doc(Bytes.el(10, "k")));
        latestIs("the value's own length counts", y, 7, 1, 3, 0);
    }

    private static void tooBig() {
        SpanShelves x = with(0, Bytes.doc(Bytes.el(5, "a", Bytes.binary(0, Bytes.zeros(1000))), Bytes.el(3, "d", Bytes.doc(Bytes.el(10, "n")))));
        CHECKS.same("size", 1024, x.look(0, 0));
        x.go(0, 1);
        x.in(0);
        CHECKS.same("2401", "UnsupportedOperationException", value(x, 0, 5, Bytes.binary(0, Bytes.zeros(1372))));
        faultIs("BIG is no fault", x, 0, -1);
        CHECKS.same("stays", 1024, x.look(0, 0));
        CHECKS.same("stays", 10, x.look(0, 7));
        CHECKS.same("a fault goes ahead of BIG", "IllegalArgumentException", value(x, 0, 5, Bytes.binary(0, Bytes.zeros(1372)), Bytes.zeros(1)));
        CHECKS.same("2400", "2400", value(x, 0, 5, Bytes.binary(0, Bytes.zeros(1371))));
        latestIs("2400", x, 1019, 2, 1376, 0);
        CHECKS.same("put", "UnsupportedOperationException", put(x, 0, 0, 10, Bytes.nm("")));
        CHECKS.same("name", "UnsupportedOperationException", name(x, 0, Bytes.nm("nn")));
        CHECKS.same("name of the same size", "2400", name(x, 0, Bytes.nm("m")));
        x.out(0);
        CHECKS.same("drop and so on still go", true, x.move(0, 0));
        Bytes.tape(x, Bytes.doc(Bytes.el(5, "", Bytes.binary(0, Bytes.zeros(1300)))));
        x.take(1);
        x.go(0, 1);
        CHECKS.same("copy", "UnsupportedOperationException", Bytes.said(() -> x.copy(0, 1)));
        x.go(0, 0);
        CHECKS.same("copy fits", 2400 - 1384 + 1305, x.copy(0, 1));
        setTooBig();
    }

    /** As many elements as a shelf can have, of two bytes each. */
    private static void manyElements() {
        byte[][] elements = new byte[997][];
        java.util.Arrays.fill(elements, Bytes.el(10, ""));
        SpanShelves x = with(0, Bytes.doc(elements));
        CHECKS.same("elements", 997, x.look(0, 2));
        for (int k = 0; k < 200; k++) {
            CHECKS.same("put", String.valueOf(2001 + 2 * k), put(x, 0, 997 + k, 255, Bytes.nm("")));
        }
        CHECKS.same("one more", "UnsupportedOperationException", put(x, 0, 0, 10, Bytes.nm("")));
        CHECKS.same("elements", 1197, x.look(0, 2));
        CHECKS.same("total", 1197, x.total(0, 0));
        CHECKS.same("kinds", 200, x.kinds(0, 255));
        CHECKS.same("go to the last one", true, x.go(0, 1196));
        CHECKS.same("its place", 4 + 2 * 1196, x.look(0, 6));
        CHECKS.same("go beyond", false, x.go(0, 1197));
        CHECKS.same("move", true, x.move(0, 0));
        CHECKS.same("find", 0, find(x, Bytes.raw("")));
        CHECKS.same("drop", 2397, x.drop(0));
    }

    private static void setTooBig() {
        SpanShelves x = with(0, Bytes.doc(Bytes.el(5, "a", Bytes.binary(0, Bytes.zeros(1000))), Bytes.el(10, "n")));
        put(x, 0, 0, 5, Bytes.nm("b"), Bytes.binary(0, Bytes.zeros(1366)));
        CHECKS.same("size", 2390, x.look(0, 0));
        x.go(0, 2);
        CHECKS.same("set to 2398", 2398, x.set(0, 9, 1));
        CHECKS.same("set to 2391", 2391, x.set(0, 8, 1));
        CHECKS.same("rename to 2396", "2396", name(x, 0, Bytes.nm("nnnnnn")));
        CHECKS.same("set to 2399", 2399, x.set(0, 16, 1));
        CHECKS.same("set to 2403", "UnsupportedOperationException", Bytes.said(() -> x.set(0, 18, 1)));
        faultIs("BIG is no fault", x, 0, -1);
        CHECKS.same("stays", 1L, x.number(0));
        SpanShelves y = with(0, Bytes.doc(Bytes.el(4, "r", Bytes.row(10, new byte[10][0])), Bytes.el(5, "a", Bytes.binary(0, Bytes.zeros(1900)))));
        put(y, 0, 1, 5, Bytes.nm("f"), Bytes.binary(0, Bytes.zeros(2400 - y.look(0, 0) - 8 - 4)));
        CHECKS.same("size", 2396, y.look(0, 0));
        y.go(0, 0);
        y.in(0);
        CHECKS.same("a row's new name fits", "2400", put(y, 0, 0, 10));
        CHECKS.same("the next one does not", "UnsupportedOperationException", put(y, 0, 0, 10));
        CHECKS.same("drop", 2396, y.drop(0));
        y.out(0);
        y.go(0, 1);
        name(y, 0, Bytes.nm("ff"));
        y.go(0, 0);
        y.in(0);
        CHECKS.same("a row's new name does not fit", "UnsupportedOperationException", put(y, 0, 0, 10));
        CHECKS.same("size", 2397, y.look(0, 0));
    }
}
