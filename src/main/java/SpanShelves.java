import java.util.NoSuchElementException;

/** A house for documents in the form of BSON 1.1. The numbered promises of DOC.md tell what each call does. */
public final class SpanShelves {
    public static final int NONE = -1;

    private static final int SHELVES = 4;
    private static final int TAPE_MOST = 2000;
    private static final int FED_BYTES = 20;
    private static final int DOCUMENT_MOST = 2400;
    private static final int DEPTH_MOST = 24;
    // An element has two bytes at least (its type and the 0 of its name), so no document has as many as this.
    private static final int ELEMENTS_MOST = 1200;
    private static final int DIGITS_MOST = 10;

    private static final int TYPE_EIGHT = 1;
    private static final int TYPE_TEXT = 2;
    private static final int TYPE_DOCUMENT = 3;
    private static final int TYPE_ROW = 4;
    private static final int TYPE_BINARY = 5;
    private static final int TYPE_BOOLEAN = 8;
    private static final int TYPE_TWO_NAMES = 11;
    private static final int TYPE_TEXT_AND_TWELVE = 12;
    private static final int TYPE_SCOPED = 15;
    private static final int TYPE_INT = 16;

    private static final int FAULT_CUT = 1;
    private static final int FAULT_LENGTH = 2;
    private static final int FAULT_TYPE = 3;
    private static final int FAULT_LAST_BYTE = 4;
    private static final int FAULT_UTF8 = 5;
    private static final int FAULT_ROW_NAME = 6;
    private static final int FAULT_BOOLEAN = 7;
    private static final int FAULT_DEPTH = 8;
    private static final int FAULT_LEFT_OVER = 9;

    private final Span tape = new Span(TAPE_MOST);
    // What the tape had when the call began: the tape itself is empty by then, so that a throw leaves it so.
    private final Span given = new Span(TAPE_MOST);
    private final Span plain = new Span(8);
    private final Reader reader = new Reader();
    private final Shelf[] shelves = new Shelf[SHELVES];
    private final Cursor scout = new Cursor();
    private final Sheet sheet = new Sheet();
    private int faultNumber = 0;
    private int faultPlace = NONE;
    private int latestShelf = NONE;

    public SpanShelves() {
        Span empty = new Span(5);
        empty.appendLowestFirst(5, 5);
        Span draft = new Span(DOCUMENT_MOST);
        for (int i = 0; i < SHELVES; i++) {
            Shelf s = new Shelf(draft);
            s.become(empty);
            shelves[i] = s;
        }
    }

    public int feed(int a, int b, int c, int d, int e) {
        if (tape.size > TAPE_MOST - FED_BYTES) {
            return NONE;
        }
        tape.appendHighestFirst(a);
        tape.appendHighestFirst(b);
        tape.appendHighestFirst(c);
        tape.appendHighestFirst(d);
        tape.appendHighestFirst(e);
        return tape.size;
    }

    public boolean end(int n) {
        if (n < 0 || n > tape.size) {
            return false;
        }
        tape.size = n;
        return true;
    }

    public int judge() {
        reader.judgeRoot(tape);
        keepFault(reader.fault, reader.place);
        return faultNumber;
    }

    public int fault(int what) {
        switch (what) {
            case 0: return faultNumber;
            case 1: return faultPlace;
            default: return NONE;
        }
    }

    public int take(int shelf) throws IndexOutOfBoundsException, IllegalArgumentException {
        useTapeUp();
        Shelf s = shelfOf(shelf);
        reader.judgeRoot(given);
        refuseFault(reader.fault, reader.place);
        s.become(given);
        return s.bytes.size;
    }

    public boolean go(int shelf, int i) throws IndexOutOfBoundsException {
        Cursor cursor = shelfOf(shelf).cursor;
        if (!cursor.hasElement(i)) {
            return false;
        }
        cursor.number = i;
        return true;
    }

    public int find(int shelf) throws IndexOutOfBoundsException {
        useTapeUp();
        Shelf s = shelfOf(shelf);
        int found = s.cursor.numberOfName(s.bytes, given, 0, given.size);
        if (found != NONE) {
            s.cursor.number = found;
        }
        return found;
    }

    public int path(int shelf) throws IndexOutOfBoundsException {
        useTapeUp();
        Shelf s = shelfOf(shelf);
        scout.toRoot(s.bytes);
        int start = 0;
        for (int parts = 0; parts < DEPTH_MOST; parts++) {
            int zero = given.zeroFrom(start, given.size);
            int found = scout.numberOfName(s.bytes, given, start, zero == NONE ? given.size : zero);
            if (found == NONE) {
                return parts;
            }
            scout.number = found;
            if (zero == NONE) {
                s.cursor.become(scout, s.bytes);
                return parts + 1;
            }
            if (!scout.stepIn(s.bytes)) {
                return parts + 1;
            }
            start = zero + 1;
        }
        return DEPTH_MOST;
    }

    public boolean in(int shelf) throws IndexOutOfBoundsException {
        Shelf s = shelfOf(shelf);
        return s.cursor.stepIn(s.bytes);
    }

    public boolean out(int shelf) throws IndexOutOfBoundsException {
        Shelf s = shelfOf(shelf);
        return s.cursor.stepOut(s.bytes);
    }

    public int look(int shelf, int what) throws IndexOutOfBoundsException {
        Shelf s = shelfOf(shelf);
        Cursor cursor = s.cursor;
        switch (what) {
            case 0: return s.bytes.size;
            case 1: return cursor.depth();
            case 2: return cursor.count;
            case 3: return cursor.document();
            case 4: return cursor.documentType();
            default: return cursor.isAtElement() ? lookAtElement(s, what) : NONE;
        }
    }

    private static int lookAtElement(Shelf s, int what) {
        int place = s.elementPlace();
        int type = s.bytes.at(place);
        int valuePlace = s.bytes.behindName(place + 1);
        switch (what) {
            case 5: return s.cursor.number;
            case 6: return place;
            case 7: return type;
            case 8: return valuePlace - place - 2;
            case 9: return valuePlace;
            case 10: return Form.behindValue(s.bytes, type, valuePlace) - valuePlace;
            default: return NONE;
        }
    }

    public int byteAt(int shelf, int i) throws IndexOutOfBoundsException {
        Shelf s = shelfOf(shelf);
        return i < 0 || i >= s.bytes.size ? NONE : s.bytes.at(i);
    }

    public long number(int shelf) throws IndexOutOfBoundsException, NoSuchElementException, IllegalStateException {
        Shelf s = shelfOf(shelf);
        refuseNoElement(s);
        int type = s.elementType();
        if (!Form.isNumber(type)) {
            throw new IllegalStateException("the element's value is no number");
        }
        int place = s.valuePlace();
        switch (Form.widthOf(type)) {
            case 1: return s.bytes.at(place);
            case 4: return s.bytes.intAt(place);
            default: return s.bytes.longAt(place);
        }
    }

    public int total(int shelf, int what) throws IndexOutOfBoundsException {
        reader.countAll(shelfOf(shelf).bytes, NONE);
        switch (what) {
            case 0: return reader.elements;
            case 1: return reader.deepest;
            case 2: return reader.documents;
            case 3: return reader.lengths;
            case 4: return reader.lengthSum;
            case 5: return reader.nameBytes;
            default: return NONE;
        }
    }

    public int kinds(int shelf, int type) throws IndexOutOfBoundsException {
        reader.countAll(shelfOf(shelf).bytes, type);
        return reader.wanted;
    }

    public int value(int shelf, int type) throws IndexOutOfBoundsException, NoSuchElementException, IllegalArgumentException, UnsupportedOperationException {
        useTapeUp();
        Shelf s = shelfOf(shelf);
        refuseNoElement(s);
        reader.judgeElement(given, false, type, s.cursor.depth());
        refuseFault(reader.fault, reader.place);
        s.draftValue(type, given, 0, given.size);
        return finishChange(shelf, s.cursor.number);
    }

    public int put(int shelf, int i, int type) throws IndexOutOfBoundsException, NoSuchElementException, IllegalArgumentException, UnsupportedOperationException {
        useTapeUp();
        Shelf s = shelfOf(shelf);
        Cursor cursor = s.cursor;
        if (i < 0 || i > cursor.count) {
            throw new NoSuchElementException("no element can have this number");
        }
        reader.judgeElement(given, !cursor.isInRow(), type, cursor.depth());
        refuseFault(reader.fault, reader.place);
        s.startDraft();
        s.keepElements(0, i);
        s.addElement(type, given, 0, given, reader.valuePlace, given.size);
        s.keepElements(i, cursor.count);
        return finishChange(shelf, i);
    }

    public int name(int shelf) throws IndexOutOfBoundsException, NoSuchElementException, IllegalStateException, IllegalArgumentException, UnsupportedOperationException {
        useTapeUp();
        Shelf s = shelfOf(shelf);
        refuseNoElement(s);
        if (s.cursor.isInRow()) {
            throw new IllegalStateException("the names in a row are fixed");
        }
        reader.judgeName(given);
        refuseFault(reader.fault, reader.place);
        int number = s.cursor.number;
        s.startDraft();
        s.keepElements(0, number);
        s.addElement(s.elementType(), given, 0, s.bytes, s.valuePlace(), s.valueEnd());
        s.keepElements(number + 1, s.cursor.count);
        return finishChange(shelf, number);
    }

    public int drop(int shelf) throws IndexOutOfBoundsException, NoSuchElementException {
        Shelf s = shelfOf(shelf);
        refuseNoElement(s);
        int number = s.cursor.number;
        s.startDraft();
        s.keepElements(0, number);
        s.keepElements(number + 1, s.cursor.count);
        return finishChange(shelf, number);
    }

    public boolean move(int shelf, int i) throws IndexOutOfBoundsException, NoSuchElementException {
        Shelf s = shelfOf(shelf);
        refuseNoElement(s);
        if (!s.cursor.hasElement(i)) {
            return false;
        }
        int number = s.cursor.number;
        s.startDraft();
        s.keepElements(0, Math.min(i, number));
        if (i > number) {
            s.keepElements(number + 1, i + 1);
        }
        s.keepElements(number, number + 1);
        if (i < number) {
            s.keepElements(i, number);
        }
        s.keepElements(Math.max(i, number) + 1, s.cursor.count);
        finishChange(shelf, i);
        return true;
    }

    public int copy(int shelf, int from) throws IndexOutOfBoundsException, NoSuchElementException, IllegalArgumentException, UnsupportedOperationException {
        Shelf s = shelfOf(shelf);
        Shelf source = shelfOf(from);
        refuseNoElement(s);
        refuseNoElement(source);
        int type = source.elementType();
        int levels = reader.levelsIn(source.bytes, type, source.valuePlace());
        boolean tooDeep = s.cursor.depth() + levels > DEPTH_MOST;
        refuseFault(tooDeep ? FAULT_DEPTH : 0, tooDeep ? 0 : NONE);
        s.draftValue(type, source.bytes, source.valuePlace(), source.valueEnd());
        return finishChange(shelf, s.cursor.number);
    }

    public int set(int shelf, int type, long v) throws IndexOutOfBoundsException, NoSuchElementException, IllegalArgumentException, UnsupportedOperationException {
        Shelf s = shelfOf(shelf);
        refuseNoElement(s);
        int fault = 0;
        if (!Form.isNumber(type)) {
            fault = FAULT_TYPE;
        } else if (type == TYPE_BOOLEAN && v != 0 && v != 1) {
            fault = FAULT_BOOLEAN;
        }
        refuseFault(fault, fault == 0 ? NONE : 0);
        plain.clear();
        plain.appendLowestFirst(v, Form.widthOf(type));
        s.draftValue(type, plain, 0, plain.size);
        return finishChange(shelf, s.cursor.number);
    }

    public int latest(int what) {
        if (latestShelf == NONE) {
            return NONE;
        }
        Shelf s = shelfOf(latestShelf);
        switch (what) {
            case 0: return s.changedPlace;
            case 1: return s.changedLengths;
            case 2: return s.changedBy;
            case 3: return latestShelf;
            default: return NONE;
        }
    }

    public void begin() {
        sheet.restart();
    }

    public int write(int type) throws IllegalStateException, IllegalArgumentException, UnsupportedOperationException {
        useTapeUp();
        refuseNothingOpen();
        reader.judgeElement(given, !sheet.isInRow(), type, sheet.open);
        refuseFault(reader.fault, reader.place);
        if (!sheet.addElement(type, given, reader.valuePlace)) {
            throw new UnsupportedOperationException("the sheet would be too big");
        }
        return sheet.bytes.size;
    }

    public int open(int type) throws IllegalStateException, IllegalArgumentException, UnsupportedOperationException {
        useTapeUp();
        refuseNothingOpen();
        reader.judgeOpening(given, !sheet.isInRow(), type, sheet.open);
        refuseFault(reader.fault, reader.place);
        if (!sheet.openElement(type, given, reader.valuePlace)) {
            throw new UnsupportedOperationException("the sheet would be too big");
        }
        return sheet.bytes.size;
    }

    public int close() throws IllegalStateException {
        refuseNothingOpen();
        sheet.closeInnermost();
        return sheet.open;
    }

    public int lay(int shelf) throws IndexOutOfBoundsException, IllegalStateException {
        Shelf s = shelfOf(shelf);
        if (!sheet.isThere || sheet.open > 0) {
            throw new IllegalStateException("there is no sheet that is done");
        }
        s.become(sheet.bytes);
        sheet.takeAway();
        return s.bytes.size;
    }

    public int sheet(int what) {
        switch (what) {
            case 0: return sheet.state();
            case 1: return sheet.bytes.size;
            case 2: return sheet.open;
            case 3: return sheet.innermostCount();
            default: return NONE;
        }
    }

    public int sheetAt(int i) {
        return i < 0 || i >= sheet.bytes.size ? NONE : sheet.bytes.at(i);
    }

    public int taped() {
        return tape.size;
    }

    private void useTapeUp() {
        given.become(tape);
        tape.clear();
    }

    private Shelf shelfOf(int shelf) {
        if (shelf < 0 || shelf >= SHELVES) {
            throw new IndexOutOfBoundsException("there is no such shelf");
        }
        return shelves[shelf];
    }

    private static void refuseNoElement(Shelf s) {
        if (!s.cursor.isAtElement()) {
            throw new NoSuchElementException("the cursor is at no element");
        }
    }

    private void refuseNothingOpen() {
        if (sheet.open < 1) {
            throw new IllegalStateException("no document is open");
        }
    }

    private void keepFault(int fault, int place) {
        faultNumber = fault;
        faultPlace = place;
    }

    private void refuseFault(int fault, int place) {
        keepFault(fault, place);
        if (fault != 0) {
            throw new IllegalArgumentException("the bytes have a fault");
        }
    }

    private int finishChange(int shelf, int number) {
        Shelf s = shelfOf(shelf);
        if (!s.finishDraft(number)) {
            throw new UnsupportedOperationException("the document would be too big");
        }
        latestShelf = shelf;
        return s.bytes.size;
    }

    /** A row of bytes that grows up to its limit. A place outside reads as 0, and writing there does nothing. */
    private static final class Span {
        private final int[] cells;
        private int size = 0;
        private boolean isOver = false;

        Span(int most) {
            cells = new int[Math.max(most, 0)];
        }

        void clear() {
            size = 0;
            isOver = false;
        }

        void become(Span other) {
            clear();
            appendPart(other, 0, other.size);
        }

        int at(int i) {
            return i >= 0 && i < size ? cells[i] : 0;
        }

        int intAt(int i) {
            return at(i) | at(i + 1) << 8 | at(i + 2) << 16 | at(i + 3) << 24;
        }

        long longAt(int i) {
            return (intAt(i) & 0xFFFFFFFFL) | (long) intAt(i + 4) << 32;
        }

        void putInt(int i, int n) {
            if (i < 0 || i > size - 4) {
                return;
            }
            for (int k = 0; k < 4; k++) {
                cells[i + k] = n >> 8 * k & 255;
            }
        }

        void append(int b) {
            if (size >= cells.length) {
                isOver = true;
                return;
            }
            cells[size] = b & 255;
            size++;
        }

        void appendHighestFirst(int n) {
            for (int k = 3; k >= 0; k--) {
                append(n >> 8 * k);
            }
        }

        void appendLowestFirst(long n, int bytes) {
            for (int k = 0; k < bytes && k < 8; k++) {
                append((int) (n >> 8 * k));
            }
        }

        void appendPart(Span other, int start, int end) {
            if (start < 0 || end > other.size || start > end) {
                return;
            }
            if (end - start > cells.length - size) {
                isOver = true;
                return;
            }
            System.arraycopy(other.cells, start, cells, size, end - start);
            size += end - start;
        }

        void appendRowName(int number) {
            int divisor = 1;
            for (int k = 1; k < Form.digitsOf(number); k++) {
                divisor *= 10;
            }
            for (int k = 0; k < DIGITS_MOST && divisor > 0; k++) {
                append('0' + number / divisor % 10);
                divisor /= 10;
            }
            append(0);
        }

        /** The place of the first 0 from start on and ahead of wall, or NONE. */
        int zeroFrom(int start, int wall) {
            for (int p = start; p < wall; p++) {
                if (p >= 0 && p < size && cells[p] == 0) {
                    return p;
                }
            }
            return NONE;
        }

        int behindName(int p) {
            int zero = zeroFrom(p, size);
            return zero == NONE ? size : zero + 1;
        }

        boolean hasSame(int p, Span other, int start, int bytes) {
            for (int k = 0; k < bytes; k++) {
                if (at(p + k) != other.at(start + k)) {
                    return false;
                }
            }
            return true;
        }

        int firstDifference(Span other, int from) {
            int common = Math.min(size, other.size);
            for (int p = from; p < common; p++) {
                if (at(p) != other.at(p)) {
                    return p;
                }
            }
            return size == other.size ? NONE : common;
        }
    }

    /** What the types are, and where the parts of sound bytes end. */
    private static final class Form {
        static boolean isType(int type) {
            return type >= 1 && type <= 19 || type == 127 || type == 255;
        }

        static boolean hasDocument(int type) {
            return type == TYPE_DOCUMENT || type == TYPE_ROW || type == TYPE_SCOPED;
        }

        static boolean isNumber(int type) {
            return type == TYPE_EIGHT || type == TYPE_BOOLEAN || type == 9 || type >= TYPE_INT && type <= 18;
        }

        /** How many bytes every value of the type has (0 if they have none, or differ). */
        static int widthOf(int type) {
            switch (type) {
                case TYPE_EIGHT: case 9: case 17: case 18: return 8;
                case 7: return 12;
                case TYPE_BOOLEAN: return 1;
                case TYPE_INT: return 4;
                case 19: return 16;
                default: return 0;
            }
        }

        static int behindValue(Span bytes, int type, int p) {
            switch (type) {
                case TYPE_TEXT: case 13: case 14: return p + 4 + bytes.intAt(p);
                case TYPE_DOCUMENT: case TYPE_ROW: case TYPE_SCOPED: return p + bytes.intAt(p);
                case TYPE_BINARY: return p + 5 + bytes.intAt(p);
                case TYPE_TWO_NAMES: return bytes.behindName(bytes.behindName(p));
                case TYPE_TEXT_AND_TWELVE: return p + 16 + bytes.intAt(p);
                default: return p + widthOf(type);
            }
        }

        static int documentIn(Span bytes, int type, int p) {
            return type == TYPE_SCOPED ? p + 8 + bytes.intAt(p + 4) : p;
        }

        static int digitsOf(int number) {
            int digits = 1;
            int rest = number / 10;
            for (int k = 1; k < DIGITS_MOST && rest > 0; k++) {
                digits++;
                rest /= 10;
            }
            return digits;
        }

        static boolean isRowName(Span bytes, int p, int zero, int number) {
            int digits = digitsOf(number);
            if (zero - p != digits) {
                return false;
            }
            int rest = number;
            for (int k = 1; k <= digits; k++) {
                if (bytes.at(zero - k) != '0' + rest % 10) {
                    return false;
                }
                rest /= 10;
            }
            return true;
        }

        /** The place of the first sign in start .. end - 1 that is no UTF-8, or NONE. */
        static int firstBadSign(Span bytes, int start, int end) {
            int p = start;
            for (int k = start; k < end && p < end; k++) {
                int more = furtherBytes(bytes.at(p));
                if (more == NONE || more >= end - p || !isSign(bytes, p, more)) {
                    return p;
                }
                p += 1 + more;
            }
            return NONE;
        }

        private static int furtherBytes(int first) {
            if (first < 0x80) {
                return 0;
            }
            // 0xC0 and 0xC1 could begin only forms that are not the shortest, 0xF5 and above only signs that there are not.
            if (first < 0xC2 || first > 0xF4) {
                return NONE;
            }
            return first < 0xE0 ? 1 : first < 0xF0 ? 2 : 3;
        }

        private static boolean isSign(Span bytes, int p, int more) {
            for (int k = 1; k <= more; k++) {
                if ((bytes.at(p + k) & 0xC0) != 0x80) {
                    return false;
                }
            }
            int second = bytes.at(p + 1);
            switch (bytes.at(p)) {
                case 0xE0: return second >= 0xA0;
                case 0xED: return second < 0xA0;
                case 0xF0: return second >= 0x90;
                case 0xF4: return second < 0x90;
                default: return true;
            }
        }
    }

    /**
     * Judges bytes from left to right and counts what it passes. Each reading method answers the place behind what
     * it read, or NONE behind a fault; those that begin at the place NONE do nothing, so that the first fault stays.
     * The wall is never ahead of the place at which a method begins.
     */
    private static final class Reader {
        private Span from = new Span(0);
        private int fault = 0;
        private int place = NONE;
        private int valuePlace = 0;
        private int elements = 0;
        private int deepest = 0;
        private int documents = 0;
        private int lengths = 0;
        private int lengthSum = 0;
        private int nameBytes = 0;
        private int wantedType = NONE;
        private int wanted = 0;

        void judgeRoot(Span bytes) {
            restart(bytes, NONE);
            refuseLeftOver(readDocument(0, bytes.size, 1, false));
        }

        void judgeName(Span bytes) {
            restart(bytes, NONE);
            refuseLeftOver(readName(0, bytes.size));
        }

        /** The depth is that of the document in which the element is to be. */
        void judgeElement(Span bytes, boolean isNamed, int type, int depth) {
            restart(bytes, NONE);
            if (!Form.isType(type)) {
                refuse(FAULT_TYPE, 0);
                return;
            }
            valuePlace = isNamed ? readName(0, bytes.size) : 0;
            refuseLeftOver(readValue(type, valuePlace, bytes.size, depth));
        }

        void judgeOpening(Span bytes, boolean isNamed, int type, int depth) {
            restart(bytes, NONE);
            if (!Form.hasDocument(type)) {
                refuse(FAULT_TYPE, 0);
                return;
            }
            valuePlace = isNamed ? readName(0, bytes.size) : 0;
            refuseLeftOver(type == TYPE_SCOPED ? readText(valuePlace, bytes.size) : valuePlace);
            if (fault == 0 && depth >= DEPTH_MOST) {
                refuse(FAULT_DEPTH, bytes.size);
            }
        }

        void countAll(Span bytes, int type) {
            restart(bytes, type);
            readDocument(0, bytes.size, 1, false);
        }

        int levelsIn(Span bytes, int type, int p) {
            restart(bytes, NONE);
            readValue(type, p, bytes.size, 0);
            return deepest;
        }

        private void restart(Span bytes, int type) {
            from = bytes;
            fault = 0;
            place = NONE;
            valuePlace = 0;
            elements = 0;
            deepest = 0;
            documents = 0;
            lengths = 0;
            lengthSum = 0;
            nameBytes = 0;
            wantedType = type;
            wanted = 0;
        }

        private int refuse(int number, int at) {
            fault = number;
            place = at;
            return NONE;
        }

        private void refuseLeftOver(int end) {
            if (fault == 0 && end < from.size) {
                refuse(FAULT_LEFT_OVER, end);
            }
        }

        private void countLength(int n) {
            lengths++;
            lengthSum += n;
        }

        private int readBytes(int p, int n, int wall) {
            if (p == NONE) {
                return NONE;
            }
            return n > wall - p ? refuse(FAULT_CUT, p) : p + n;
        }

        private int readName(int p, int wall) {
            if (p == NONE) {
                return NONE;
            }
            int zero = from.zeroFrom(p, wall);
            if (zero == NONE) {
                return refuse(FAULT_CUT, p);
            }
            int bad = Form.firstBadSign(from, p, zero);
            return bad == NONE ? zero + 1 : refuse(FAULT_UTF8, bad);
        }

        private int readRowName(int p, int wall, int number) {
            int zero = from.zeroFrom(p, wall);
            if (zero == NONE) {
                return refuse(FAULT_CUT, p);
            }
            return Form.isRowName(from, p, zero, number) ? zero + 1 : refuse(FAULT_ROW_NAME, p);
        }

        private int readText(int p, int wall) {
            if (readBytes(p, 4, wall) == NONE) {
                return NONE;
            }
            int n = from.intAt(p);
            if (n < 1) {
                return refuse(FAULT_LENGTH, p);
            }
            if (n > wall - p - 4) {
                return refuse(FAULT_CUT, p);
            }
            int last = p + 3 + n;
            if (from.at(last) != 0) {
                return refuse(FAULT_LAST_BYTE, last);
            }
            int bad = Form.firstBadSign(from, p + 4, last);
            if (bad != NONE) {
                return refuse(FAULT_UTF8, bad);
            }
            countLength(n);
            return last + 1;
        }

        private int readBinary(int p, int wall) {
            if (readBytes(p, 4, wall) == NONE) {
                return NONE;
            }
            int n = from.intAt(p);
            if (n < 0) {
                return refuse(FAULT_LENGTH, p);
            }
            if (n > wall - p - 5) {
                return refuse(FAULT_CUT, p);
            }
            countLength(n);
            if (from.at(p + 4) == 2) {
                if (n < 4) {
                    return refuse(FAULT_LENGTH, p);
                }
                if (from.intAt(p + 5) != n - 4) {
                    return refuse(FAULT_LENGTH, p + 5);
                }
                countLength(n - 4);
            }
            return p + 5 + n;
        }

        private int readBoolean(int p, int wall) {
            int end = readBytes(p, 1, wall);
            return end != NONE && from.at(p) > 1 ? refuse(FAULT_BOOLEAN, p) : end;
        }

        private int readScoped(int p, int wall, int depth) {
            if (readBytes(p, 4, wall) == NONE) {
                return NONE;
            }
            int n = from.intAt(p);
            if (n < 14) {
                return refuse(FAULT_LENGTH, p);
            }
            if (n > wall - p) {
                return refuse(FAULT_CUT, p);
            }
            countLength(n);
            int end = readDocument(readText(p + 4, p + n), p + n, depth + 1, false);
            return end != NONE && end != p + n ? refuse(FAULT_LENGTH, p) : end;
        }

        private int readDocument(int p, int wall, int depth, boolean isRow) {
            if (p == NONE) {
                return NONE;
            }
            if (depth > DEPTH_MOST) {
                return refuse(FAULT_DEPTH, p);
            }
            if (readBytes(p, 4, wall) == NONE) {
                return NONE;
            }
            int n = from.intAt(p);
            if (n < 5) {
                return refuse(FAULT_LENGTH, p);
            }
            if (n > wall - p) {
                return refuse(FAULT_CUT, p);
            }
            documents++;
            deepest = Math.max(deepest, depth);
            countLength(n);
            int last = p + n - 1;
            int next = p + 4;
            for (int number = 0; number < ELEMENTS_MOST && next < last; number++) {
                next = readElement(next, last, depth, isRow ? number : NONE);
                if (next == NONE) {
                    return NONE;
                }
            }
            return from.at(last) == 0 ? last + 1 : refuse(FAULT_LAST_BYTE, last);
        }

        /** The row number is NONE in a document that is no row. */
        private int readElement(int p, int wall, int depth, int rowNumber) {
            int type = from.at(p);
            if (!Form.isType(type)) {
                return refuse(FAULT_TYPE, p);
            }
            int next = rowNumber == NONE ? readName(p + 1, wall) : readRowName(p + 1, wall, rowNumber);
            if (next == NONE) {
                return NONE;
            }
            elements++;
            nameBytes += next - p - 2;
            if (type == wantedType) {
                wanted++;
            }
            return readValue(type, next, wall, depth);
        }

        private int readValue(int type, int p, int wall, int depth) {
            switch (type) {
                case TYPE_TEXT: case 13: case 14: return readText(p, wall);
                case TYPE_DOCUMENT: return readDocument(p, wall, depth + 1, false);
                case TYPE_ROW: return readDocument(p, wall, depth + 1, true);
                case TYPE_BINARY: return readBinary(p, wall);
                case TYPE_BOOLEAN: return readBoolean(p, wall);
                case TYPE_TWO_NAMES: return readName(readName(p, wall), wall);
                case TYPE_TEXT_AND_TWELVE: return readBytes(readText(p, wall), 12, wall);
                case TYPE_SCOPED: return readScoped(p, wall, depth);
                default: return readBytes(p, Form.widthOf(type), wall);
            }
        }
    }

    /** A way from the root inward, to a document and an element of it. */
    private static final class Cursor {
        private final int[] documentPlaces = new int[DEPTH_MOST];
        private final int[] documentTypes = new int[DEPTH_MOST];
        // Of the elements through which the way goes; the innermost document's element is told by number alone.
        private final int[] wayPlaces = new int[DEPTH_MOST];
        private final int[] wayNumbers = new int[DEPTH_MOST];
        private int level = 0;
        private int number = NONE;
        // Where the elements of the innermost document begin; behind the last one stands the place of its last byte.
        private final int[] starts = new int[ELEMENTS_MOST + 1];
        private int count = 0;

        void toRoot(Span bytes) {
            level = 0;
            documentPlaces[0] = 0;
            documentTypes[0] = 0;
            findStarts(bytes);
            toNumberOrLast(0);
        }

        void become(Cursor other, Span bytes) {
            System.arraycopy(other.documentPlaces, 0, documentPlaces, 0, DEPTH_MOST);
            System.arraycopy(other.documentTypes, 0, documentTypes, 0, DEPTH_MOST);
            System.arraycopy(other.wayPlaces, 0, wayPlaces, 0, DEPTH_MOST);
            System.arraycopy(other.wayNumbers, 0, wayNumbers, 0, DEPTH_MOST);
            level = other.level;
            number = other.number;
            findStarts(bytes);
        }

        boolean stepIn(Span bytes) {
            int place = startOf(number);
            int type = bytes.at(place);
            if (!isAtElement() || !Form.hasDocument(type) || level + 1 >= DEPTH_MOST) {
                return false;
            }
            wayPlaces[level] = place;
            wayNumbers[level] = number;
            level++;
            documentPlaces[level] = Form.documentIn(bytes, type, bytes.behindName(place + 1));
            documentTypes[level] = type;
            findStarts(bytes);
            toNumberOrLast(0);
            return true;
        }

        boolean stepOut(Span bytes) {
            if (level < 1) {
                return false;
            }
            level--;
            number = wayNumbers[level];
            findStarts(bytes);
            return true;
        }

        /** To be called whenever the innermost document is another one, or has been changed. */
        void findStarts(Span bytes) {
            int last = document() + bytes.intAt(document()) - 1;
            int next = document() + 4;
            count = 0;
            for (int k = 0; k < ELEMENTS_MOST && next < last; k++) {
                starts[k] = next;
                count++;
                next = Form.behindValue(bytes, bytes.at(next), bytes.behindName(next + 1));
            }
            starts[count] = last;
        }

        /** Without elements the last one's number is NONE. */
        void toNumberOrLast(int wish) {
            number = Math.min(wish, count - 1);
        }

        boolean isAtElement() {
            return number != NONE;
        }

        boolean hasElement(int i) {
            return i >= 0 && i < count;
        }

        boolean isInRow() {
            return documentType() == TYPE_ROW;
        }

        int depth() {
            return level + 1;
        }

        int document() {
            return documentPlaces[level];
        }

        int documentType() {
            return documentTypes[level];
        }

        int startOf(int i) {
            return i >= 0 && i <= count ? starts[i] : 0;
        }

        int lastBytePlace() {
            return startOf(count);
        }

        int numberOfName(Span bytes, Span wish, int start, int end) {
            for (int i = 0; i < count; i++) {
                int p = startOf(i) + 1;
                int size = bytes.behindName(p) - 1 - p;
                if (size == end - start && bytes.hasSame(p, wish, start, size)) {
                    return i;
                }
            }
            return NONE;
        }

        /** Makes the lengths around the innermost document's elements greater: how many there are. */
        int lengthen(Span bytes, int by) {
            int lengths = 0;
            for (int k = 0; k <= level; k++) {
                int place = documentPlaces[k];
                bytes.putInt(place, bytes.intAt(place) + by);
                lengths++;
                if (k > 0 && documentTypes[k] == TYPE_SCOPED) {
                    place = bytes.behindName(wayPlaces[k - 1] + 1);
                    bytes.putInt(place, bytes.intAt(place) + by);
                    lengths++;
                }
            }
            return lengths;
        }
    }

    /** A document with its cursor. A change is drafted beside it, so that one that is too big leaves no trace. */
    private static final class Shelf {
        private final Span bytes = new Span(DOCUMENT_MOST);
        private final Cursor cursor = new Cursor();
        private final Span draft;
        private int drafted = 0;
        private int changedPlace = NONE;
        private int changedLengths = 0;
        private int changedBy = 0;

        Shelf(Span sharedDraft) {
            draft = sharedDraft;
        }

        void become(Span document) {
            bytes.become(document);
            cursor.toRoot(bytes);
        }

        int elementPlace() {
            return cursor.startOf(cursor.number);
        }

        int elementType() {
            return bytes.at(elementPlace());
        }

        int valuePlace() {
            return bytes.behindName(elementPlace() + 1);
        }

        int valueEnd() {
            return cursor.startOf(cursor.number + 1);
        }

        void startDraft() {
            draft.clear();
            drafted = 0;
            draft.appendPart(bytes, 0, cursor.document() + 4);
        }

        /** The elements first .. behind - 1 come next in the draft. */
        void keepElements(int first, int behind) {
            if (!cursor.isInRow() || first == drafted) {
                draft.appendPart(bytes, cursor.startOf(first), cursor.startOf(behind));
                drafted += behind - first;
                return;
            }
            for (int i = first; i < behind; i++) {
                int place = cursor.startOf(i);
                int valueStart = bytes.behindName(place + 1);
                addElement(bytes.at(place), bytes, place + 1, bytes, valueStart, cursor.startOf(i + 1));
            }
        }

        void addElement(int type, Span names, int namePlace, Span values, int valueStart, int valueEnd) {
            draft.append(type);
            if (cursor.isInRow()) {
                draft.appendRowName(drafted);
            } else {
                draft.appendPart(names, namePlace, names.behindName(namePlace));
            }
            draft.appendPart(values, valueStart, valueEnd);
            drafted++;
        }

        /** The element gets another type and value. */
        void draftValue(int type, Span values, int valueStart, int valueEnd) {
            startDraft();
            keepElements(0, cursor.number);
            addElement(type, bytes, elementPlace() + 1, values, valueStart, valueEnd);
            keepElements(cursor.number + 1, cursor.count);
        }

        boolean finishDraft(int number) {
            draft.appendPart(bytes, cursor.lastBytePlace(), bytes.size);
            if (draft.isOver) {
                return false;
            }
            changedBy = draft.size - bytes.size;
            // Ahead of the elements only lengths differ, and those are left aside.
            changedPlace = bytes.firstDifference(draft, cursor.document() + 4);
            int lengths = cursor.lengthen(draft, changedBy);
            changedLengths = changedBy == 0 ? 0 : lengths;
            bytes.become(draft);
            cursor.findStarts(bytes);
            cursor.toNumberOrLast(number);
            return true;
        }
    }

    /** The document that is being written, with what is open in it. */
    private static final class Sheet {
        private final Span bytes = new Span(DOCUMENT_MOST);
        private final int[] documentPlaces = new int[DEPTH_MOST];
        private final int[] documentTypes = new int[DEPTH_MOST];
        private final int[] valuePlaces = new int[DEPTH_MOST];
        private final int[] counts = new int[DEPTH_MOST];
        private int open = 0;
        private boolean isThere = false;

        void restart() {
            takeAway();
            isThere = true;
            openDocument(0, 0);
        }

        void takeAway() {
            bytes.clear();
            open = 0;
            isThere = false;
        }

        int state() {
            return !isThere ? 0 : open > 0 ? 1 : 2;
        }

        boolean isInRow() {
            return open > 0 && documentTypes[open - 1] == TYPE_ROW;
        }

        int innermostCount() {
            return open > 0 ? counts[open - 1] : 0;
        }

        /** How many bytes more there may be: each open document still needs its last byte. */
        private int room() {
            return DOCUMENT_MOST - bytes.size - open;
        }

        private int bytesAheadOfGiven() {
            return isInRow() ? 2 + Form.digitsOf(innermostCount()) : 1;
        }

        private void startElement(int type, Span given, int nameEnd) {
            bytes.append(type);
            if (isInRow()) {
                bytes.appendRowName(innermostCount());
            } else {
                bytes.appendPart(given, 0, nameEnd);
            }
            if (open > 0) {
                counts[open - 1]++;
            }
        }

        boolean addElement(int type, Span given, int nameEnd) {
            if (bytesAheadOfGiven() + given.size > room()) {
                return false;
            }
            startElement(type, given, nameEnd);
            bytes.appendPart(given, nameEnd, given.size);
            return true;
        }

        boolean openElement(int type, Span given, int nameEnd) {
            boolean isScoped = type == TYPE_SCOPED;
            int lengthsAndLastByte = isScoped ? 9 : 5;
            if (bytesAheadOfGiven() + given.size + lengthsAndLastByte > room()) {
                return false;
            }
            startElement(type, given, nameEnd);
            int valuePlace = bytes.size;
            if (isScoped) {
                bytes.appendLowestFirst(0, 4);
            }
            bytes.appendPart(given, nameEnd, given.size);
            openDocument(type, valuePlace);
            return true;
        }

        private void openDocument(int type, int valuePlace) {
            if (open >= DEPTH_MOST) {
                return;
            }
            documentPlaces[open] = bytes.size;
            documentTypes[open] = type;
            valuePlaces[open] = valuePlace;
            counts[open] = 0;
            open++;
            bytes.appendLowestFirst(0, 4);
        }

        void closeInnermost() {
            if (open < 1) {
                return;
            }
            open--;
            bytes.append(0);
            bytes.putInt(documentPlaces[open], bytes.size - documentPlaces[open]);
            if (documentTypes[open] == TYPE_SCOPED) {
                bytes.putInt(valuePlaces[open], bytes.size - valuePlaces[open]);
            }
        }
    }
}
