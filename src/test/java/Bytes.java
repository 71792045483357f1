import java.io.ByteArrayOutputStream;
import java.nio.charset.StandardCharsets;
import java.util.concurrent.Callable;

/** Makes bytes in the document's form, feeds them, and turns calls into texts that can be compared. */
final class Bytes {
    private Bytes() {
    }

    static byte[] hex(String text) {
        String digits = text.replace(" ", "");
        byte[] out = new byte[digits.length() / 2];
        for (int i = 0; i < out.length; i++) {
            out[i] = (byte) Integer.parseInt(digits.substring(2 * i, 2 * i + 2), 16);
        }
        return out;
    }

    static byte[] join(byte[]... parts) {
        ByteArrayOutputStream out = new ByteArrayOutputStream();
        for (byte[] part : parts) {
            out.writeBytes(part);
        }
        return out.toByteArray();
    }

    static byte[] one(int b) {
        return new byte[] {(byte) b};
    }

    static byte[] i32(long n) {
        return low(n, 4);
    }

    static byte[] i64(long n) {
        return low(n, 8);
    }

    private static byte[] low(long n, int count) {
        byte[] out = new byte[count];
        for (int k = 0; k < count; k++) {
            out[k] = (byte) (n >>> (8 * k));
        }
        return out;
    }

    static byte[] zeros(int count) {
        return new byte[count];
    }

    static byte[] raw(String text) {
        return text.getBytes(StandardCharsets.UTF_8);
    }

    /** A NAME, its 0 included. */
    static byte[] nm(String text) {
        return join(raw(text), one(0));
    }

    static byte[] text(String text) {
        return join(i32(raw(text).length + 1), nm(text));
    }

    static byte[] doc(byte[]... elements) {
        byte[] all = join(elements);
        return join(i32(all.length + 5), all, one(0));
    }

    static byte[] el(int type, String name, byte[] value) {
        return join(one(type), nm(name), value);
    }

    static byte[] el(int type, String name) {
        return el(type, name, zeros(0));
    }

    static byte[] row(int type, byte[]... values) {
        byte[][] elements = new byte[values.length][];
        for (int i = 0; i < values.length; i++) {
            elements[i] = el(type, Integer.toString(i), values[i]);
        }
        return doc(elements);
    }

    static byte[] scoped(String text, byte[] document) {
        return join(i32(4 + text(text).length + document.length), text(text), document);
    }

    static byte[] binary(int kind, byte[] bytes) {
        return join(i32(bytes.length), one(kind), bytes);
    }

    /** A document with documents in it, one in the other: the outermost one's depth is 1. */
    static byte[] nest(int depths) {
        byte[] d = doc();
        for (int k = 1; k < depths; k++) {
            d = doc(el(3, "", d));
        }
        return d;
    }

    /** Replaces what the tape has. */
    static void tape(SpanShelves x, byte[]... parts) {
        byte[] bytes = join(parts);
        x.end(0);
        for (int i = 0; i < bytes.length; i += 20) {
            x.feed(four(bytes, i), four(bytes, i + 4), four(bytes, i + 8), four(bytes, i + 12), four(bytes, i + 16));
        }
        if (!x.end(bytes.length)) {
            throw new IllegalStateException("the test's bytes do not fit on the tape");
        }
    }

    /** Four bytes from there on as a number for feed(), the first one its highest; 0s where there are none. */
    static int four(byte[] bytes, int i) {
        int n = 0;
        for (int k = 0; k < 4; k++) {
            n = n << 8 | (i + k < bytes.length ? bytes[i + k] & 255 : 0);
        }
        return n;
    }

    static byte[] shelf(SpanShelves x, int shelf) {
        byte[] out = new byte[x.look(shelf, 0)];
        for (int i = 0; i < out.length; i++) {
            out[i] = (byte) x.byteAt(shelf, i);
        }
        return out;
    }

    static byte[] sheet(SpanShelves x) {
        byte[] out = new byte[x.sheet(1)];
        for (int i = 0; i < out.length; i++) {
            out[i] = (byte) x.sheetAt(i);
        }
        return out;
    }

    static String show(byte[] bytes) {
        StringBuilder out = new StringBuilder();
        for (byte b : bytes) {
            out.append(String.format("%02x", b));
        }
        return out.toString();
    }

    /** What the call answers, or the name of what it throws. */
    static String said(Callable<?> call) {
        try {
            return String.valueOf(call.call());
        } catch (Exception e) {
            return e.getClass().getSimpleName();
        }
    }
}
