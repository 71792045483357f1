/** Promises 25 to 31: the sheet. */
public final class SheetTest {
    private static final Checks CHECKS = new Checks("SheetTest");

    public static void main(String[] args) {
        withoutSheet();
        writing();
        rows();
        scopes();
        faults();
        depths();
        tooBig();
        laying();
        CHECKS.finish();
    }

    private static String write(SpanShelves x, int type, byte[]... parts) {
        Bytes.tape(x, parts);
        String answer = Bytes.said(() -> x.write(type));
        CHECKS.same("write uses the tape up", 0, x.taped());
        return answer;
    }

    private static String open(SpanShelves x, int type, byte[]... parts) {
        Bytes.tape(x, parts);
        String answer = Bytes.said(() -> x.open(type));
        CHECKS.same("open uses the tape up", 0, x.taped());
        return answer;
    }

    private static void sheetIs(String what, SpanShelves x, int... due) {
        for (int k = 0; k < due.length; k++) {
            CHECKS.same(what + ", sheet(" + k + ")", due[k], x.sheet(k));
        }
        CHECKS.same(what + ", sheet(4)", -1, x.sheet(4));
        CHECKS.same(what + ", sheet(-1)", -1, x.sheet(-1));
    }

    private static void faultIs(String what, SpanShelves x, int number, int place) {
        CHECKS.same(what + ", fault(0)", number, x.fault(0));
        CHECKS.same(what + ", fault(1)", place, x.fault(1));
    }

    private static void withoutSheet() {
        SpanShelves x = new SpanShelves();
        sheetIs("without", x, 0, 0, 0, 0);
        CHECKS.same("sheetAt(0)", -1, x.sheetAt(0));
        CHECKS.same("close", "IllegalStateException", Bytes.said(() -> x.close()));
        CHECKS.same("lay", "IllegalStateException", Bytes.said(() -> x.lay(0)));
        CHECKS.same("lay of no shelf", "IndexOutOfBoundsException", Bytes.said(() -> x.lay(4)));
        CHECKS.same("write", "IllegalStateException", write(x, 99, Bytes.raw("x")));
        CHECKS.same("open", "IllegalStateException", open(x, 99, Bytes.raw("x")));
        faultIs("no judging", x, 0, -1);
    }

    private static void writing() {
        SpanShelves x = new SpanShelves();
        Bytes.tape(x, Bytes.one(5));
        x.begin();
        CHECKS.same("begin leaves the tape", 1, x.taped());
        sheetIs("begin", x, 1, 4, 1, 0);
        CHECKS.same("write", "12", write(x, 16, Bytes.nm("ab"), Bytes.i32(7)));
        sheetIs("write", x, 1, 12, 1, 1);
        CHECKS.same("open 3", "19", open(x, 3, Bytes.nm("d")));
        sheetIs("open", x, 1, 19, 2, 0);
        CHECKS.same("write in it", "26", write(x, 2, Bytes.nm(""), Bytes.text("")));
        CHECKS.same("bytes", "00000000" + "10616200" + "07000000" + "036400" + "00000000" + "0200" + "0100000000", Bytes.show(Bytes.sheet(x)));
        sheetIs("inner", x, 1, 26, 2, 1);
        CHECKS.same("close", 1, x.close());
        sheetIs("close", x, 1, 27, 1, 2);
        CHECKS.same("bytes", "00000000" + "10616200" + "07000000" + "036400" + "0c000000" + "0200" + "0100000000" + "00", Bytes.show(Bytes.sheet(x)));
        CHECKS.same("write", "30", write(x, 127, Bytes.nm("m")));
        CHECKS.same("close", 0, x.close());
        sheetIs("done", x, 2, 31, 0, 0);
        byte[] due = Bytes.doc(Bytes.el(16, "ab", Bytes.i32(7)), Bytes.el(3, "d", Bytes.doc(Bytes.el(2, "", Bytes.text("")))), Bytes.el(127, "m"));
        CHECKS.same("bytes", Bytes.show(due), Bytes.show(Bytes.sheet(x)));
        CHECKS.same("sheetAt(-1)", -1, x.sheetAt(-1));
        CHECKS.same("sheetAt(31)", -1, x.sheetAt(31));
        CHECKS.same("sheetAt(30)", 0, x.sheetAt(30));
        CHECKS.same("close", "IllegalStateException", Bytes.said(() -> x.close()));
        CHECKS.same("write", "IllegalStateException", write(x, 10, Bytes.nm("z")));
        CHECKS.same("open", "IllegalStateException", open(x, 3, Bytes.nm("z")));
        x.begin();
        sheetIs("begin anew", x, 1, 4, 1, 0);
        CHECKS.same("bytes", "00000000", Bytes.show(Bytes.sheet(x)));
        write(x, 10, Bytes.nm("z"));
        open(x, 4, Bytes.nm("z"));
        x.begin();
        sheetIs("begin ends what is open", x, 1, 4, 1, 0);
        CHECKS.same("no row any more", "7", write(x, 10, Bytes.nm("z")));
    }

    private static void rows() {
        SpanShelves x = new SpanShelves();
        x.begin();
        open(x, 4, Bytes.nm("r"));
        for (int k = 0; k < 101; k++) {
            String due = String.valueOf(x.sheet(1) + 2 + String.valueOf(k).length());
            CHECKS.same("write " + k, due, write(x, 10));
        }
        CHECKS.same("a name is left over", "IllegalArgumentException", write(x, 10, Bytes.nm("101")));
        faultIs("a name is left over", x, 9, 0);
        CHECKS.same("open in a row", String.valueOf(x.sheet(1) + 5 + 4), open(x, 4));
        CHECKS.same("open with a name", "IllegalArgumentException", open(x, 3, Bytes.nm("0")));
        faultIs("open with a name", x, 9, 0);
        CHECKS.same("names begin at 0", String.valueOf(x.sheet(1) + 3 + 4), write(x, 16, Bytes.i32(1)));
        x.close();
        CHECKS.same("counted", 102, x.sheet(3));
        write(x, 8, Bytes.one(1));
        x.close();
        x.close();
        int size = x.lay(0);
        byte[] bytes = Bytes.shelf(x, 0);
        CHECKS.same("size", size, bytes.length);
        Bytes.tape(x, bytes);
        CHECKS.same("sound", 0, x.judge());
    }

    private static void scopes() {
        SpanShelves x = new SpanShelves();
        x.begin();
        CHECKS.same("open 15", String.valueOf(4 + 3 + 4 + 6 + 4), open(x, 15, Bytes.nm("s"), Bytes.text("f")));
        open(x, 4, Bytes.nm("r"));
        CHECKS.same("open 15 in a row", String.valueOf(21 + 7 + 3 + 4 + 5 + 4), open(x, 15, Bytes.text("")));
        CHECKS.same("bytes", "00000000" + "0f7300" + "00000000" + "020000006600" + "00000000" + "047200" + "00000000" + "0f3000" + "00000000" + "0100000000" + "00000000",
            Bytes.show(Bytes.sheet(x)));
        write(x, 10, Bytes.nm("n"));
        x.close();
        x.close();
        CHECKS.same("the outer one's LENGTH", 0, x.sheetAt(7));
        x.close();
        CHECKS.same("the outer one's LENGTH", 4 + 6 + 5 + 3 + 5 + 3 + 4 + 5 + 8, x.sheetAt(7));
        x.close();
        byte[] row = Bytes.row(15, Bytes.scoped("", Bytes.doc(Bytes.el(10, "n"))));
        byte[] due = Bytes.doc(Bytes.el(15, "s", Bytes.scoped("f", Bytes.doc(Bytes.el(4, "r", row)))));
        CHECKS.same("bytes", Bytes.show(due), Bytes.show(Bytes.sheet(x)));
    }

    private static void faults() {
        SpanShelves x = new SpanShelves();
        x.begin();
        write(x, 10, Bytes.nm("a"));
        String due = "IllegalArgumentException";
        CHECKS.same("no type", due, write(x, 0, Bytes.raw("x")));
        faultIs("no type", x, 3, 0);
        CHECKS.same("nothing", due, write(x, 10));
        faultIs("nothing", x, 1, 0);
        CHECKS.same("value cut", due, write(x, 16, Bytes.nm("abc"), Bytes.zeros(3)));
        faultIs("value cut", x, 1, 4);
        CHECKS.same("left over", due, write(x, 16, Bytes.nm("abc"), Bytes.zeros(5)));
        faultIs("left over", x, 9, 8);
        CHECKS.same("bad sign", due, write(x, 10, Bytes.hex("6162FF00")));
        faultIs("bad sign", x, 5, 2);
        for (int type : new int[] {-1, 0, 1, 2, 5, 13, 14, 16, 19, 20, 127, 255, 256}) {
            CHECKS.same("open " + type, due, open(x, type));
            faultIs("open " + type, x, 3, 0);
        }
        CHECKS.same("open of nothing", due, open(x, 3));
        faultIs("open of nothing", x, 1, 0);
        CHECKS.same("open with more", due, open(x, 3, Bytes.nm("d"), Bytes.doc()));
        faultIs("open with more", x, 9, 2);
        CHECKS.same("open 15 without a text", due, open(x, 15, Bytes.nm("d")));
        faultIs("open 15 without a text", x, 1, 2);
        CHECKS.same("open 15 with more", due, open(x, 15, Bytes.nm("d"), Bytes.text("x"), Bytes.one(0)));
        faultIs("open 15 with more", x, 9, 8);
        CHECKS.same("open 15 with a bad text", due, open(x, 15, Bytes.nm("d"), Bytes.hex("02000000FF00")));
        faultIs("open 15 with a bad text", x, 5, 6);
        sheetIs("throws leave it", x, 1, 7, 1, 1);
        open(x, 3, Bytes.nm("d"));
        faultIs("without one", x, 0, -1);
    }

    private static void depths() {
        SpanShelves x = new SpanShelves();
        x.begin();
        for (int k = 2; k <= 23; k++) {
            open(x, 3, Bytes.nm(""));
        }
        CHECKS.same("open", 23, x.sheet(2));
        CHECKS.same("write to depth 25", "IllegalArgumentException", write(x, 3, Bytes.nm("n"), Bytes.nest(2)));
        faultIs("write to depth 25", x, 8, 2 + 6);
        CHECKS.same("write to depth 24", String.valueOf(4 + 22 * 6 + 3 + 5), write(x, 3, Bytes.nm("n"), Bytes.nest(1)));
        CHECKS.same("open to depth 24", String.valueOf(144 + 6), open(x, 3, Bytes.nm("")));
        CHECKS.same("open to depth 25", "IllegalArgumentException", open(x, 3, Bytes.nm("abc")));
        faultIs("open to depth 25", x, 8, 4);
        CHECKS.same("open 15 to depth 25", "IllegalArgumentException", open(x, 15, Bytes.nm("abc"), Bytes.text("")));
        faultIs("open 15 to depth 25", x, 8, 9);
        CHECKS.same("9 goes ahead of 8", "IllegalArgumentException", open(x, 3, Bytes.nm("abc"), Bytes.one(0)));
        faultIs("9 goes ahead of 8", x, 9, 4);
        CHECKS.same("write to depth 25", "IllegalArgumentException", write(x, 4, Bytes.nm("n"), Bytes.one(0)));
        faultIs("write to depth 25", x, 8, 2);
        CHECKS.same("write at depth 24", "153", write(x, 10, Bytes.nm("x")));
        for (int k = 23; k >= 0; k--) {
            CHECKS.same("close", k, x.close());
        }
        x.lay(1);
        CHECKS.same("depth", 24, x.total(1, 1));
    }

    private static void tooBig() {
        String big = "UnsupportedOperationException";
        SpanShelves x = new SpanShelves();
        x.begin();
        open(x, 3, Bytes.nm("d"));
        write(x, 5, Bytes.nm("a"), Bytes.binary(0, Bytes.zeros(1900)));
        CHECKS.same("size", 1919, x.sheet(1));
        CHECKS.same("a byte too many", big, write(x, 5, Bytes.nm("b"), Bytes.binary(0, Bytes.zeros(472))));
        faultIs("BIG is no fault", x, 0, -1);
        CHECKS.same("just", "2398", write(x, 5, Bytes.nm("b"), Bytes.binary(0, Bytes.zeros(471))));
        CHECKS.same("not one more", big, write(x, 10, Bytes.nm("")));
        CHECKS.same("count", 2, x.sheet(3));
        CHECKS.same("a fault goes ahead of BIG", "IllegalArgumentException", write(x, 10, Bytes.nm(""), Bytes.one(0)));
        x.close();
        x.close();
        CHECKS.same("size", 2400, x.sheet(1));
        CHECKS.same("lay", 2400, x.lay(0));
        for (int more = 0; more < 2; more++) {
            x.begin();
            write(x, 5, Bytes.nm("a"), Bytes.binary(0, Bytes.zeros(1900)));
            write(x, 5, Bytes.nm("b"), Bytes.binary(0, Bytes.zeros(2400 - 1912 - 8 - 1 - 8 + more)));
            CHECKS.same("open", more == 0 ? "2398" : big, open(x, 3, Bytes.nm("x")));
            CHECKS.same("open count", more == 0 ? 2 : 1, x.sheet(2));
            x.begin();
            write(x, 5, Bytes.nm("a"), Bytes.binary(0, Bytes.zeros(1900)));
            write(x, 5, Bytes.nm("b"), Bytes.binary(0, Bytes.zeros(2400 - 1912 - 8 - 1 - 18 + more)));
            CHECKS.same("open 15", more == 0 ? "2398" : big, open(x, 15, Bytes.nm("x"), Bytes.text("f")));
            x.begin();
            write(x, 5, Bytes.nm("a"), Bytes.binary(0, Bytes.zeros(1900)));
            open(x, 4, Bytes.nm("r"));
            write(x, 5, Bytes.binary(0, Bytes.zeros(2400 - 1912 - 7 - 8 - 2 - 3 + more)));
            CHECKS.same("write in a row", more == 0 ? "2398" : big, write(x, 10));
        }
    }

    private static void laying() {
        SpanShelves x = new SpanShelves();
        Bytes.tape(x, Bytes.doc(Bytes.el(3, "a", Bytes.doc(Bytes.el(10, "b")))));
        x.take(2);
        x.in(2);
        x.begin();
        write(x, 10, Bytes.nm("p"));
        CHECKS.same("no shelf goes ahead", "IndexOutOfBoundsException", Bytes.said(() -> x.lay(-1)));
        CHECKS.same("open", "IllegalStateException", Bytes.said(() -> x.lay(2)));
        CHECKS.same("stays", 2, x.look(2, 1));
        x.close();
        Bytes.tape(x, Bytes.one(1));
        CHECKS.same("lay", 8, x.lay(2));
        CHECKS.same("the tape stays", 1, x.taped());
        CHECKS.same("bytes", Bytes.show(Bytes.doc(Bytes.el(10, "p"))), Bytes.show(Bytes.shelf(x, 2)));
        CHECKS.same("depth", 1, x.look(2, 1));
        CHECKS.same("at", 0, x.look(2, 5));
        sheetIs("is no more", x, 0, 0, 0, 0);
        CHECKS.same("sheetAt(0)", -1, x.sheetAt(0));
        CHECKS.same("lay again", "IllegalStateException", Bytes.said(() -> x.lay(2)));
        CHECKS.same("lay is no change", -1, x.latest(3));
        x.begin();
        x.close();
        CHECKS.same("an empty one", 5, x.lay(2));
        CHECKS.same("at none", -1, x.look(2, 5));
    }
}
