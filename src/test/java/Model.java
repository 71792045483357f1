import java.util.ArrayList;
import java.util.Arrays;
import java.util.List;
import java.util.NoSuchElementException;
import java.util.TreeSet;

/**
 * The document's promises once more, in another manner: documents are trees here, and bytes are made of them anew
 * for every answer. It is slow and plain; ModelTest compares its answers with those of the class.
 */
final class Model {
    private static final int MOST = 2400;

    static final class Fault extends RuntimeException {
        private static final long serialVersionUID = 1;
        final int number;
        final int place;

        Fault(int number, int place) {
            this.number = number;
            this.place = place;
        }
    }

    static final class Doc {
        final int type;
        boolean open = false;
        final List<El> els = new ArrayList<>();

        Doc(int type) {
            this.type = type;
        }

        boolean isRow() {
            return type == 4;
        }

        byte[] nameOf(int i) {
            return isRow() ? Bytes.raw(Integer.toString(i)) : els.get(i).name;
        }
    }

    static final class El {
        int type;
        byte[] name;
        byte[] plain = new byte[0]; // the value without a document; of 15 its text
        Doc doc;

        void becomes(El other) {
            type = other.type;
            plain = other.plain;
            doc = other.doc;
        }
    }

    static final class Spot {
        final Doc doc;
        int number;

        Spot(Doc doc) {
            this.doc = doc;
            number = doc.els.isEmpty() ? -1 : 0;
        }
    }

    static final class Shelf {
        Doc root = new Doc(0);
        List<Spot> way = new ArrayList<>();

        Shelf() {
            toRoot();
        }

        void toRoot() {
            way = new ArrayList<>();
            way.add(new Spot(root));
        }

        Spot spot() {
            return way.get(way.size() - 1);
        }

        El el() {
            Spot s = spot();
            return s.number < 0 ? null : s.doc.els.get(s.number);
        }
    }

    // ---- bytes of trees

    static byte[] bytesOf(Doc d) {
        byte[][] parts = new byte[d.els.size()][];
        for (int i = 0; i < parts.length; i++) {
            parts[i] = Bytes.join(Bytes.one(d.els.get(i).type), d.nameOf(i), Bytes.one(0), valueOf(d.els.get(i)));
        }
        byte[] all = Bytes.join(parts);
        return d.open ? Bytes.join(Bytes.i32(0), all) : Bytes.join(Bytes.i32(all.length + 5), all, Bytes.one(0));
    }

    static byte[] valueOf(El e) {
        if (e.doc == null) {
            return e.plain;
        }
        byte[] d = bytesOf(e.doc);
        return e.type == 15 ? Bytes.join(Bytes.i32(e.doc.open ? 0 : 4 + e.plain.length + d.length), e.plain, d) : d;
    }

    // ---- trees of bytes

    static final class Parser {
        final byte[] b;
        int p = 0;

        Parser(byte[] b) {
            this.b = b;
        }

        int at(int i) {
            return b[i] & 255;
        }

        int int32(int i) {
            return at(i) + (at(i + 1) << 8) + (at(i + 2) << 16) + (at(i + 3) << 24);
        }

        void need(int n, long wall) {
            if (p + (long) n > wall) {
                throw new Fault(1, p);
            }
        }

        byte[] bytes(int n, long wall) {
            need(n, wall);
            p += n;
            return Arrays.copyOfRange(b, p - n, p);
        }

        byte[] name(long wall, String must) {
            int start = p;
            int z = p;
            while (z < wall && b[z] != 0) {
                z++;
            }
            if (z >= wall) {
                throw new Fault(1, start);
            }
            byte[] got = Arrays.copyOfRange(b, start, z);
            if (must != null && !Arrays.equals(got, Bytes.raw(must))) {
                throw new Fault(6, start);
            }
            utf8(start, z);
            p = z + 1;
            return got;
        }

        void utf8(int start, int end) {
            int q = start;
            while (q < end) {
                int ones = Integer.numberOfLeadingZeros(~(at(q) << 24));
                if (ones == 1 || ones > 4) {
                    throw new Fault(5, q);
                }
                int n = ones == 0 ? 1 : ones;
                int code = ones == 0 ? at(q) : at(q) & (0x7F >> ones);
                for (int k = 1; k < n; k++) {
                    if (q + k >= end || at(q + k) >> 6 != 2) {
                        throw new Fault(5, q);
                    }
                    code = code << 6 | at(q + k) & 63;
                }
                int least = n == 1 ? 0 : n == 2 ? 0x80 : n == 3 ? 0x800 : 0x10000;
                if (code < least || code > 0x10FFFF || code >= 0xD800 && code <= 0xDFFF) {
                    throw new Fault(5, q);
                }
                q += n;
            }
        }

        byte[] text(long wall) {
            int start = p;
            need(4, wall);
            int n = int32(p);
            if (n < 1) {
                throw new Fault(2, start);
            }
            if (start + 4L + n > wall) {
                throw new Fault(1, start);
            }
            if (b[start + 3 + n] != 0) {
                throw new Fault(4, start + 3 + n);
            }
            utf8(start + 4, start + 3 + n);
            p = start + 4 + n;
            return Arrays.copyOfRange(b, start, p);
        }

        Doc doc(long wall, int depth, int type) {
            int start = p;
            if (depth == 25) {
                throw new Fault(8, start);
            }
            need(4, wall);
            int n = int32(p);
            if (n < 5) {
                throw new Fault(2, start);
            }
            if (start + (long) n > wall) {
                throw new Fault(1, start);
            }
            int last = start + n - 1;
            Doc d = new Doc(type);
            p = start + 4;
            while (p < last) {
                int t = at(p);
                if (!isType(t)) {
                    throw new Fault(3, p);
                }
                p++;
                byte[] name = name(last, type == 4 ? Integer.toString(d.els.size()) : null);
                El e = value(t, last, depth);
                e.name = name;
                d.els.add(e);
            }
            if (b[last] != 0) {
                throw new Fault(4, last);
            }
            p = last + 1;
            return d;
        }

        El value(int type, long wall, int depth) {
            El e = new El();
            e.type = type;
            int start = p;
            if (type == 3 || type == 4) {
                e.doc = doc(wall, depth + 1, type);
            } else if (type == 2 || type == 13 || type == 14) {
                e.plain = text(wall);
            } else if (type == 12) {
                byte[] t = text(wall);
                e.plain = Bytes.join(t, bytes(12, wall));
            } else if (type == 11) {
                name(wall, null);
                name(wall, null);
                e.plain = Arrays.copyOfRange(b, start, p);
            } else if (type == 5) {
                binary(start, wall);
                e.plain = Arrays.copyOfRange(b, start, p);
            } else if (type == 15) {
                scoped(e, start, wall, depth);
            } else {
                int n = type == 1 || type == 9 || type == 17 || type == 18 ? 8 : type == 7 ? 12 : type == 8 ? 1 : type == 16 ? 4 : type == 19 ? 16 : 0;
                e.plain = bytes(n, wall);
                if (type == 8 && e.plain[0] != 0 && e.plain[0] != 1) {
                    throw new Fault(7, start);
                }
            }
            return e;
        }

        void binary(int start, long wall) {
            need(4, wall);
            int n = int32(p);
            if (n < 0) {
                throw new Fault(2, start);
            }
            if (start + 5L + n > wall) {
                throw new Fault(1, start);
            }
            if (b[start + 4] == 2 && n < 4) {
                throw new Fault(2, start);
            }
            if (b[start + 4] == 2 && int32(start + 5) != n - 4) {
                throw new Fault(2, start + 5);
            }
            p = start + 5 + n;
        }

        void scoped(El e, int start, long wall, int depth) {
            need(4, wall);
            int n = int32(p);
            if (n < 14) {
                throw new Fault(2, start);
            }
            if (start + (long) n > wall) {
                throw new Fault(1, start);
            }
            p = start + 4;
            e.plain = text(start + n);
            e.doc = doc(start + n, depth + 1, 15);
            if (p != start + n) {
                throw new Fault(2, start);
            }
        }

        void whole() {
            if (p < b.length) {
                throw new Fault(9, p);
            }
        }
    }

    static boolean isType(int t) {
        return t >= 1 && t <= 19 || t == 127 || t == 255;
    }

    // ---- the state

    byte[] tape = new byte[0];
    final Shelf[] shelves = {new Shelf(), new Shelf(), new Shelf(), new Shelf()};
    int faultNumber = 0;
    int faultPlace = -1;
    final int[] latest = {-1, -1, -1, -1};
    Doc sheet = null;
    final List<Doc> open = new ArrayList<>();

    private byte[] used() {
        byte[] t = tape;
        tape = new byte[0];
        return t;
    }

    private Shelf shelf(int s) {
        if (s < 0 || s > 3) {
            throw new IndexOutOfBoundsException();
        }
        return shelves[s];
    }

    private El at(Shelf s) {
        if (s.el() == null) {
            throw new NoSuchElementException();
        }
        return s.el();
    }

    private interface Judging {
        El run();
    }

    private El judged(Judging judging) {
        faultNumber = 0;
        faultPlace = -1;
        try {
            return judging.run();
        } catch (Fault f) {
            faultNumber = f.number;
            faultPlace = f.place;
            throw new IllegalArgumentException();
        }
    }

    private El judgedElement(byte[] t, boolean named, int type, int depth) {
        return judged(() -> {
            if (!isType(type)) {
                throw new Fault(3, 0);
            }
            Parser parser = new Parser(t);
            byte[] name = named ? parser.name(t.length, null) : null;
            El e = parser.value(type, t.length, depth);
            parser.whole();
            e.name = name;
            return e;
        });
    }

    private El judgedRoot(byte[] t) {
        return judged(() -> {
            Parser parser = new Parser(t);
            El e = new El();
            e.doc = parser.doc(t.length, 1, 0);
            parser.whole();
            return e;
        });
    }

    static Doc clone(Doc d) {
        if (d == null) {
            return null;
        }
        Doc c = new Doc(d.type);
        for (El e : d.els) {
            El f = new El();
            f.type = e.type;
            f.name = e.name;
            f.plain = e.plain;
            f.doc = clone(e.doc);
            c.els.add(f);
        }
        return c;
    }

    // ---- the face

    int feed(byte[] twenty) {
        if (tape.length + 20 > 2000) {
            return -1;
        }
        tape = Bytes.join(tape, twenty);
        return tape.length;
    }

    boolean end(int n) {
        if (n < 0 || n > tape.length) {
            return false;
        }
        tape = Arrays.copyOf(tape, n);
        return true;
    }

    int judge() {
        try {
            judgedRoot(tape);
        } catch (IllegalArgumentException e) {
            return faultNumber;
        }
        return 0;
    }

    int fault(int what) {
        return what == 0 ? faultNumber : what == 1 ? faultPlace : -1;
    }

    int take(int s) {
        byte[] t = used();
        Shelf shelf = shelf(s);
        shelf.root = judgedRoot(t).doc;
        shelf.toRoot();
        return t.length;
    }

    boolean go(int s, int i) {
        Spot spot = shelf(s).spot();
        if (i < 0 || i >= spot.doc.els.size()) {
            return false;
        }
        spot.number = i;
        return true;
    }

    private static int numberOf(Doc d, byte[] name) {
        for (int i = 0; i < d.els.size(); i++) {
            if (Arrays.equals(d.nameOf(i), name)) {
                return i;
            }
        }
        return -1;
    }

    int find(int s) {
        byte[] t = used();
        Spot spot = shelf(s).spot();
        int n = numberOf(spot.doc, t);
        if (n >= 0) {
            spot.number = n;
        }
        return n;
    }

    int path(int s) {
        byte[] t = used();
        Shelf shelf = shelf(s);
        List<byte[]> parts = new ArrayList<>();
        int start = 0;
        for (int i = 0; i <= t.length; i++) {
            if (i == t.length || t[i] == 0) {
                parts.add(Arrays.copyOfRange(t, start, i));
                start = i + 1;
            }
        }
        List<Spot> way = new ArrayList<>();
        Doc d = shelf.root;
        int found = 0;
        for (byte[] part : parts) {
            int n = d == null ? -1 : numberOf(d, part);
            if (n < 0) {
                return found;
            }
            Spot spot = new Spot(d);
            spot.number = n;
            way.add(spot);
            d = d.els.get(n).doc;
            found++;
        }
        shelf.way = way;
        return found;
    }

    boolean in(int s) {
        Shelf shelf = shelf(s);
        if (shelf.el() == null || shelf.el().doc == null) {
            return false;
        }
        shelf.way.add(new Spot(shelf.el().doc));
        return true;
    }

    boolean out(int s) {
        Shelf shelf = shelf(s);
        if (shelf.way.size() == 1) {
            return false;
        }
        shelf.way.remove(shelf.way.size() - 1);
        return true;
    }

    private static int elementPlace(Doc d, int i) {
        int p = 4;
        for (int k = 0; k < i; k++) {
            p += 2 + d.nameOf(k).length + valueOf(d.els.get(k)).length;
        }
        return p;
    }

    /** The places of the lengths around, and behind them that of the innermost document. */
    private static List<Integer> lengthPlaces(Shelf shelf) {
        List<Integer> places = new ArrayList<>();
        int p = 0;
        places.add(0);
        for (int k = 0; k + 1 < shelf.way.size(); k++) {
            Spot spot = shelf.way.get(k);
            El e = spot.doc.els.get(spot.number);
            p += elementPlace(spot.doc, spot.number) + 2 + spot.doc.nameOf(spot.number).length;
            if (e.type == 15) {
                places.add(p);
                p += 4 + e.plain.length;
            }
            places.add(p);
        }
        return places;
    }

    int look(int s, int what) {
        Shelf shelf = shelf(s);
        Spot spot = shelf.spot();
        List<Integer> places = lengthPlaces(shelf);
        int place = places.get(places.size() - 1);
        if (what == 0) {
            return bytesOf(shelf.root).length;
        }
        if (what == 1) {
            return shelf.way.size();
        }
        if (what == 2) {
            return spot.doc.els.size();
        }
        if (what == 3) {
            return place;
        }
        if (what == 4) {
            return spot.doc.type;
        }
        if (what < 0 || what > 10 || spot.number < 0) {
            return -1;
        }
        int name = spot.doc.nameOf(spot.number).length;
        int element = place + elementPlace(spot.doc, spot.number);
        int[] answers = {spot.number, element, shelf.el().type, name, element + 2 + name, valueOf(shelf.el()).length};
        return answers[what - 5];
    }

    byte[] bytes(int s) {
        return bytesOf(shelf(s).root);
    }

    long number(int s) {
        El e = at(shelf(s));
        if (!List.of(1, 8, 9, 16, 17, 18).contains(e.type)) {
            throw new IllegalStateException();
        }
        long n = e.plain.length > 1 && e.plain[e.plain.length - 1] < 0 ? -1 : 0;
        for (int k = e.plain.length - 1; k >= 0; k--) {
            n = n << 8 | e.plain[k] & 255;
        }
        return n;
    }

    private static void gather(Doc d, int depth, int[] sums, int[] kinds) {
        sums[1] = Math.max(sums[1], depth);
        sums[2]++;
        sums[3]++;
        sums[4] += bytesOf(d).length;
        for (int i = 0; i < d.els.size(); i++) {
            El e = d.els.get(i);
            sums[0]++;
            sums[5] += d.nameOf(i).length;
            kinds[e.type]++;
            if (e.type == 2 || e.type == 12 || e.type == 13 || e.type == 14 || e.type == 15) {
                sums[3]++;
                sums[4] += new Parser(e.plain).int32(0);
            }
            if (e.type == 15) {
                sums[3]++;
                sums[4] += valueOf(e).length;
            }
            if (e.type == 5) {
                boolean second = e.plain[4] == 2;
                sums[3] += second ? 2 : 1;
                sums[4] += e.plain.length - 5 + (second ? e.plain.length - 9 : 0);
            }
            if (e.doc != null) {
                gather(e.doc, depth + 1, sums, kinds);
            }
        }
    }

    int total(int s, int what) {
        int[] sums = new int[6];
        gather(shelf(s).root, 1, sums, new int[256]);
        return what < 0 || what > 5 ? -1 : sums[what];
    }

    int kinds(int s, int type) {
        int[] kinds = new int[256];
        gather(shelf(s).root, 1, new int[6], kinds);
        return type < 0 || type > 255 ? 0 : kinds[type];
    }

    private interface Change {
        void run();
    }

    /** Makes the change, or takes it back and throws, if it is too big. */
    private int change(int s, Change change) {
        Shelf shelf = shelves[s];
        byte[] before = bytesOf(shelf.root);
        List<Integer> lengths = lengthPlaces(shelf);
        Spot spot = shelf.spot();
        List<El> els = new ArrayList<>(spot.doc.els);
        int number = spot.number;
        El e = shelf.el();
        El kept = new El();
        if (e != null) {
            kept.becomes(e);
            kept.name = e.name;
        }
        change.run();
        byte[] after = bytesOf(shelf.root);
        if (after.length > MOST) {
            spot.doc.els.clear();
            spot.doc.els.addAll(els);
            spot.number = number;
            if (e != null) {
                e.becomes(kept);
                e.name = kept.name;
            }
            throw new UnsupportedOperationException();
        }
        tellLatest(before, after, lengths, s);
        return after.length;
    }

    private void tellLatest(byte[] before, byte[] after, List<Integer> lengths, int s) {
        TreeSet<Integer> aside = new TreeSet<>();
        latest[1] = 0;
        for (int p : lengths) {
            aside.addAll(List.of(p, p + 1, p + 2, p + 3));
            if (new Parser(before).int32(p) != new Parser(after).int32(p)) {
                latest[1]++;
            }
        }
        latest[0] = -1;
        for (int p = Math.max(before.length, after.length) - 1; p >= 0; p--) {
            boolean same = p < before.length && p < after.length && before[p] == after[p];
            if (!same && !aside.contains(p)) {
                latest[0] = p;
            }
        }
        latest[2] = after.length - before.length;
        latest[3] = s;
    }

    int value(int s, int type) {
        byte[] t = used();
        Shelf shelf = shelf(s);
        El e = at(shelf);
        El f = judgedElement(t, false, type, shelf.way.size());
        return change(s, () -> e.becomes(f));
    }

    int put(int s, int i, int type) {
        byte[] t = used();
        Shelf shelf = shelf(s);
        Spot spot = shelf.spot();
        if (i < 0 || i > spot.doc.els.size()) {
            throw new NoSuchElementException();
        }
        El f = judgedElement(t, !spot.doc.isRow(), type, shelf.way.size());
        return change(s, () -> {
            spot.doc.els.add(i, f);
            spot.number = i;
        });
    }

    int name(int s) {
        byte[] t = used();
        Shelf shelf = shelf(s);
        El e = at(shelf);
        if (shelf.spot().doc.isRow()) {
            throw new IllegalStateException();
        }
        El f = judged(() -> {
            Parser parser = new Parser(t);
            El g = new El();
            g.name = parser.name(t.length, null);
            parser.whole();
            return g;
        });
        return change(s, () -> e.name = f.name);
    }

    int drop(int s) {
        Shelf shelf = shelf(s);
        at(shelf);
        Spot spot = shelf.spot();
        return change(s, () -> {
            spot.doc.els.remove(spot.number);
            spot.number = Math.min(spot.number, spot.doc.els.size() - 1);
        });
    }

    boolean move(int s, int i) {
        Shelf shelf = shelf(s);
        at(shelf);
        Spot spot = shelf.spot();
        if (i < 0 || i >= spot.doc.els.size()) {
            return false;
        }
        change(s, () -> {
            spot.doc.els.add(i, spot.doc.els.remove(spot.number));
            spot.number = i;
        });
        return true;
    }

    int copy(int s, int from) {
        Shelf shelf = shelf(s);
        Shelf source = shelf(from);
        El e = at(shelf);
        El f = at(source);
        judged(() -> {
            int[] sums = new int[6];
            if (f.doc != null) {
                gather(f.doc, shelf.way.size() + 1, sums, new int[256]);
            }
            if (sums[1] >= 25) {
                throw new Fault(8, 0);
            }
            return null;
        });
        El g = new El();
        g.becomes(f);
        g.doc = clone(f.doc);
        return change(s, () -> e.becomes(g));
    }

    int set(int s, int type, long v) {
        El e = at(shelf(s));
        El g = judged(() -> {
            if (!List.of(1, 8, 9, 16, 17, 18).contains(type)) {
                throw new Fault(3, 0);
            }
            if (type == 8 && v != 0 && v != 1) {
                throw new Fault(7, 0);
            }
            El f = new El();
            f.type = type;
            f.plain = type == 8 ? Bytes.one((int) v) : type == 16 ? Bytes.i32(v) : Bytes.i64(v);
            return f;
        });
        return change(s, () -> e.becomes(g));
    }

    int latest(int what) {
        return what < 0 || what > 3 ? -1 : latest[what];
    }

    void begin() {
        sheet = new Doc(0);
        sheet.open = true;
        open.clear();
        open.add(sheet);
    }

    private Doc innermost() {
        if (open.isEmpty()) {
            throw new IllegalStateException();
        }
        return open.get(open.size() - 1);
    }

    private int addToSheet(Doc d, El e) {
        d.els.add(e);
        int more = e.doc != null && e.doc.open ? 1 : 0;
        if (bytesOf(sheet).length + open.size() + more > MOST) {
            d.els.remove(d.els.size() - 1);
            throw new UnsupportedOperationException();
        }
        if (more == 1) {
            open.add(e.doc);
        }
        return bytesOf(sheet).length;
    }

    int write(int type) {
        byte[] t = used();
        Doc d = innermost();
        return addToSheet(d, judgedElement(t, !d.isRow(), type, open.size()));
    }

    int open(int type) {
        byte[] t = used();
        Doc d = innermost();
        El e = judged(() -> {
            if (type != 3 && type != 4 && type != 15) {
                throw new Fault(3, 0);
            }
            Parser parser = new Parser(t);
            El f = new El();
            f.type = type;
            f.name = d.isRow() ? null : parser.name(t.length, null);
            f.plain = type == 15 ? parser.text(t.length) : new byte[0];
            parser.whole();
            if (open.size() == 24) {
                throw new Fault(8, t.length);
            }
            f.doc = new Doc(type);
            f.doc.open = true;
            return f;
        });
        return addToSheet(d, e);
    }

    int close() {
        innermost().open = false;
        open.remove(open.size() - 1);
        return open.size();
    }

    int lay(int s) {
        Shelf shelf = shelf(s);
        if (sheet == null || !open.isEmpty()) {
            throw new IllegalStateException();
        }
        shelf.root = sheet;
        shelf.toRoot();
        sheet = null;
        return bytesOf(shelf.root).length;
    }

    byte[] sheetBytes() {
        return sheet == null ? new byte[0] : bytesOf(sheet);
    }

    int sheet(int what) {
        if (what < 0 || what > 3) {
            return -1;
        }
        if (sheet == null) {
            return 0;
        }
        int[] answers = {open.isEmpty() ? 2 : 1, sheetBytes().length, open.size(), open.isEmpty() ? 0 : innermost().els.size()};
        return answers[what];
    }
}
