import java.util.Random;
import java.util.concurrent.Callable;

/** Long runs of calls, made up from fixed seeds, on the class and on the model side by side. */
public final class ModelTest {
    private static final Checks CHECKS = new Checks("ModelTest");
    private static final int[] TYPES = {1, 2, 3, 4, 5, 6, 7, 8, 9, 10, 11, 12, 13, 14, 15, 16, 17, 18, 19, 127, 255};
    private static final int[] NUMBER_TYPES = {1, 8, 9, 16, 17, 18};
    private static final String[] NAMES = {"", "a", "b", "ab", "0", "1", "10", "\u00e4", "\u20ac", "\ud83d\ude00", "longer name"};

    private final Random random;
    private final SpanShelves x = new SpanShelves();
    private final Model m = new Model();
    private final int style;

    private ModelTest(int seed) {
        random = new Random(seed);
        style = seed % 5;
    }

    public static void main(String[] args) {
        int runs = args.length > 0 ? Integer.parseInt(args[0]) : 400;
        for (int seed = 0; seed < runs && CHECKS.isClean(); seed++) {
            new ModelTest(seed).run(seed);
        }
        CHECKS.finish();
    }

    private void run(int seed) {
        for (int s = 0; s < 4; s++) {
            int shelf = s;
            tape(firstDocument());
            both("run " + seed + ": take(" + s + ")", () -> x.take(shelf), () -> m.take(shelf));
        }
        for (int k = 0; k < 160 && CHECKS.isClean(); k++) {
            String call = step();
            String what = "run " + seed + ", call " + k + ": " + call;
            compareSmall(what);
            if (k % 8 == 0) {
                compareAll(what);
            }
        }
        compareAll("run " + seed + ", end");
    }

    private void both(String call, Callable<?> ours, Callable<?> models) {
        CHECKS.same(call, Bytes.said(models), Bytes.said(ours));
    }

    private void compareSmall(String what) {
        for (int k = -1; k <= 4; k++) {
            CHECKS.same(what + "; fault(" + k + ")", m.fault(k), x.fault(k));
            CHECKS.same(what + "; latest(" + k + ")", m.latest(k), x.latest(k));
            CHECKS.same(what + "; sheet(" + k + ")", m.sheet(k), x.sheet(k));
        }
        CHECKS.same(what + "; taped()", m.tape.length, x.taped());
    }

    private void compareAll(String what) {
        for (int s = 0; s < 4; s++) {
            int shelf = s;
            CHECKS.same(what + "; shelf " + s, Bytes.show(m.bytes(s)), Bytes.show(Bytes.shelf(x, s)));
            for (int k = -1; k <= 11; k++) {
                CHECKS.same(what + "; look(" + s + ", " + k + ")", m.look(s, k), x.look(s, k));
            }
            for (int k = -1; k <= 6; k++) {
                CHECKS.same(what + "; total(" + s + ", " + k + ")", m.total(s, k), x.total(s, k));
            }
            int type = random.nextInt(300) - 20;
            CHECKS.same(what + "; kinds(" + s + ", " + type + ")", m.kinds(s, type), x.kinds(s, type));
            int known = TYPES[random.nextInt(TYPES.length)];
            CHECKS.same(what + "; kinds(" + s + ", " + known + ")", m.kinds(s, known), x.kinds(s, known));
            both(what + "; number(" + s + ")", () -> x.number(shelf), () -> m.number(shelf));
        }
        CHECKS.same(what + "; sheet", Bytes.show(m.sheetBytes()), Bytes.show(Bytes.sheet(x)));
        CHECKS.same(what + "; sheetAt behind it", -1, x.sheetAt(m.sheetBytes().length));
    }

    // ---- what is made up

    private boolean chance(int percent) {
        return random.nextInt(100) < percent;
    }

    private int shelf() {
        return chance(2) ? random.nextInt(9) - 4 : chance(60) ? 0 : random.nextInt(4);
    }

    private int type() {
        return chance(4) ? random.nextInt(300) - 20 : TYPES[random.nextInt(TYPES.length)];
    }

    private String name() {
        return NAMES[random.nextInt(NAMES.length)];
    }

    private byte[] some(int most) {
        byte[] bytes = new byte[random.nextInt(most + 1)];
        random.nextBytes(bytes);
        return bytes;
    }

    private byte[] text() {
        return Bytes.text(chance(10) ? "\0x" : chance(style > 2 ? 30 : 5) ? "t".repeat(random.nextInt(400)) : name());
    }

    /** Puts each style of run near the edges that it is for: long rows, great depths, much filled. */
    private byte[] firstDocument() {
        switch (style) {
            case 1:
                byte[] row = Bytes.row(10, new byte[(chance(50) ? 8 : 96) + random.nextInt(6)][0]);
                return Bytes.doc(Bytes.el(chance(90) ? 4 : 3, name(), row), Bytes.el(15, "c", Bytes.scoped("f", doc(2, false))));
            case 2:
                byte[] deep = Bytes.doc(Bytes.el(10, ""), Bytes.el(3, "a", Bytes.doc()));
                for (int k = random.nextInt(23); k > 0; k--) {
                    deep = chance(70) ? Bytes.doc(Bytes.el(3, "", deep)) : chance(50) ? Bytes.row(4, Bytes.row(3, deep)) : Bytes.doc(Bytes.el(15, "", Bytes.scoped("", deep)));
                }
                return deep;
            case 3:
                byte[] small = Bytes.join(Bytes.el(3, "a", doc(1, false)), Bytes.el(4, "ab", doc(0, true)));
                return Bytes.doc(small, Bytes.el(5, "b", Bytes.binary(0, Bytes.zeros(Math.max(0, 1900 - small.length)))));
            default:
                return doc(3, false);
        }
    }

    private byte[] doc(int depth, boolean row) {
        int count = chance(10) ? 0 : 1 + random.nextInt(row && chance(30) ? 15 : 5);
        byte[][] elements = new byte[count][];
        for (int i = 0; i < count; i++) {
            int t = TYPES[random.nextInt(TYPES.length)];
            String n = row ? Integer.toString(i) : name();
            elements[i] = Bytes.el(t, n, value(t, depth));
        }
        return Bytes.doc(elements);
    }

    private byte[] value(int type, int depth) {
        boolean leaf = depth <= 0;
        switch (type) {
            case 2: case 13: case 14: return text();
            case 3: return chance(style == 2 ? 30 : 3) ? Bytes.nest(1 + random.nextInt(25)) : leaf ? Bytes.doc() : doc(depth - 1, false);
            case 4: return leaf ? Bytes.doc() : doc(depth - 1, true);
            case 5: return chance(30) ? binaryTwo() : Bytes.binary(random.nextInt(256), some(style > 2 ? 700 : 12));
            case 7: return Bytes.zeros(12);
            case 8: return Bytes.one(random.nextInt(chance(5) ? 3 : 2));
            case 11: return Bytes.join(Bytes.nm(name()), Bytes.nm(name()));
            case 12: return Bytes.join(text(), Bytes.zeros(12));
            case 15: return Bytes.scoped(name(), leaf ? Bytes.doc() : doc(depth - 1, false));
            case 16: return Bytes.i32(random.nextInt());
            case 1: case 9: case 17: case 18: return Bytes.i64(number());
            case 19: return Bytes.zeros(16);
            default: return Bytes.zeros(0);
        }
    }

    private byte[] binaryTwo() {
        byte[] inner = some(9);
        return Bytes.binary(2, Bytes.join(Bytes.i32(inner.length), inner));
    }

    private long number() {
        return chance(50) ? random.nextInt(4) - 1 : random.nextLong();
    }

    /** Often leaves the bytes alone; else changes, adds or takes away some. */
    private byte[] spoil(byte[] bytes) {
        if (chance(75)) {
            return bytes;
        }
        int kind = random.nextInt(5);
        if (kind == 0 || bytes.length == 0) {
            return Bytes.join(bytes, some(3));
        }
        if (kind == 1) {
            return java.util.Arrays.copyOf(bytes, random.nextInt(bytes.length));
        }
        byte[] out = bytes.clone();
        int near = chance(50) ? Math.min(out.length, 12) : out.length;
        int p = random.nextInt(near);
        out[p] = (byte) (kind == 2 ? out[p] + (chance(50) ? 1 : -1) : kind == 3 ? 128 >> random.nextInt(8) ^ out[p] : random.nextInt(256));
        return out;
    }

    private void tape(byte[] bytes) {
        byte[] all = bytes.length > 2000 ? java.util.Arrays.copyOf(bytes, 2000) : bytes;
        Bytes.tape(x, all);
        m.tape = all;
    }

    private boolean inRow(int s) {
        return s >= 0 && s < 4 && m.shelves[s].spot().doc.isRow();
    }

    private byte[] named(boolean row, byte[] value) {
        return row != chance(2) ? value : Bytes.join(Bytes.nm(name()), value);
    }

    // ---- the calls

    private String step() {
        int kind = random.nextInt(100);
        if (style == 4 && chance(60)) {
            return sheet();
        }
        if (kind < 40) {
            return walk();
        }
        if (kind < 80) {
            return change();
        }
        if (kind < 95) {
            return sheet();
        }
        return feeding();
    }

    private String walk() {
        int s = shelf();
        int i = random.nextInt(chance(10) ? 40 : 6) - 1;
        switch (random.nextInt(9)) {
            case 0: case 1:
                both("go(" + s + ", " + i + ")", () -> x.go(s, i), () -> m.go(s, i));
                return "go";
            case 2: case 3: case 4:
                both("in(" + s + ")", () -> x.in(s), () -> m.in(s));
                return "in";
            case 5:
                both("out(" + s + ")", () -> x.out(s), () -> m.out(s));
                return "out";
            case 6:
                tape(Bytes.raw(name()));
                both("find(" + s + ")", () -> x.find(s), () -> m.find(s));
                return "find";
            case 7:
                StringBuilder parts = new StringBuilder(name());
                for (int k = random.nextInt(4); k > 0; k--) {
                    parts.append('\0').append(name());
                }
                if (style == 2 && chance(50)) {
                    parts.setLength(0);
                    parts.append("\0".repeat(random.nextInt(26)));
                }
                tape(Bytes.raw(parts.toString()));
                both("path(" + s + ")", () -> x.path(s), () -> m.path(s));
                return "path";
            default:
                return style == 2 ? dive(s) : toElementWithDocument(s);
        }
    }

    private String dive(int s) {
        for (int k = random.nextInt(25); k > 0; k--) {
            both("in(" + s + ")", () -> x.in(s), () -> m.in(s));
        }
        return "dive";
    }

    private String toElementWithDocument(int s) {
        if (s < 0 || s > 3) {
            return "nothing";
        }
        Model.Doc d = m.shelves[s].spot().doc;
        for (int i = 0; i < d.els.size(); i++) {
            int number = i;
            if (d.els.get(i).doc != null && chance(50)) {
                both("go(" + s + ", " + i + ")", () -> x.go(s, number), () -> m.go(s, number));
                both("in(" + s + ")", () -> x.in(s), () -> m.in(s));
                return "go, in";
            }
        }
        return "nothing";
    }

    private String change() {
        int s = shelf();
        int t = type();
        int count = s >= 0 && s < 4 ? m.shelves[s].spot().doc.els.size() : 3;
        int i = chance(4) ? random.nextInt(60) - 20 : random.nextInt(count + 1);
        switch (random.nextInt(style == 1 || style == 3 ? 14 : 10)) {
            case 0:
                if (chance(80)) {
                    return "nothing";
                }
                tape(spoil(doc(3, false)));
                both("judge()", () -> x.judge(), () -> m.judge());
                both("take(" + s + ")", () -> x.take(s), () -> m.take(s));
                return "take";
            case 1:
                tape(spoil(value(t, 2)));
                both("value(" + s + ", " + t + ")", () -> x.value(s, t), () -> m.value(s, t));
                return "value";
            case 3:
                tape(spoil(Bytes.nm(name())));
                both("name(" + s + ")", () -> x.name(s), () -> m.name(s));
                return "name";
            case 4:
                both("drop(" + s + ")", () -> x.drop(s), () -> m.drop(s));
                return "drop";
            case 5:
                both("move(" + s + ", " + i + ")", () -> x.move(s, i), () -> m.move(s, i));
                return "move";
            case 6:
                int from = shelf();
                both("copy(" + s + ", " + from + ")", () -> x.copy(s, from), () -> m.copy(s, from));
                return "copy";
            case 7:
                int u = chance(10) ? t : NUMBER_TYPES[random.nextInt(6)];
                long v = number();
                both("set(" + s + ", " + u + ", " + v + ")", () -> x.set(s, u, v), () -> m.set(s, u, v));
                return "set";
            default:
                tape(spoil(named(inRow(s), value(t, 2))));
                both("put(" + s + ", " + i + ", " + t + ")", () -> x.put(s, i, t), () -> m.put(s, i, t));
                return "put";
        }
    }

    private String sheet() {
        int s = shelf();
        int t = type();
        boolean row = !m.open.isEmpty() && m.open.get(m.open.size() - 1).isRow();
        int kind = random.nextInt(style == 4 ? 40 : 12);
        if (kind == 0 && chance(style == 4 ? 10 : 100) || m.sheet == null && chance(95)) {
            x.begin();
            m.begin();
            return "begin";
        }
        if (kind < 3) {
            both("close()", () -> x.close(), () -> m.close());
            return "close";
        }
        if (kind < 5 && chance(style == 4 ? 20 : 100)) {
            while (!m.open.isEmpty() && chance(90)) {
                both("close()", () -> x.close(), () -> m.close());
            }
            both("lay(" + s + ")", () -> x.lay(s), () -> m.lay(s));
            return "lay";
        }
        if (kind < (style == 4 ? 25 : 8)) {
            tape(spoil(named(row, value(t, 2))));
            both("write(" + t + ")", () -> x.write(t), () -> m.write(t));
            return "write";
        }
        int u = chance(5) ? t : new int[] {3, 4, 15}[random.nextInt(3)];
        tape(spoil(named(row, u == 15 ? text() : Bytes.zeros(0))));
        both("open(" + u + ")", () -> x.open(u), () -> m.open(u));
        return "open";
    }

    private String feeding() {
        int n = random.nextInt(60) - 5;
        int times = chance(10) ? 102 : random.nextInt(3);
        for (int k = 0; k < times; k++) {
            byte[] twenty = new byte[20];
            random.nextBytes(twenty);
            java.nio.IntBuffer ints = java.nio.ByteBuffer.wrap(twenty).asIntBuffer();
            both("feed", () -> x.feed(ints.get(0), ints.get(1), ints.get(2), ints.get(3), ints.get(4)), () -> m.feed(twenty));
        }
        both("end(" + n + ")", () -> x.end(n), () -> m.end(n));
        both("judge()", () -> x.judge(), () -> m.judge());
        return "feeding";
    }
}
