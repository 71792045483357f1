import java.lang.reflect.InvocationTargetException;
import java.lang.reflect.Method;
import java.util.ArrayList;
import java.util.HashMap;
import java.util.List;
import java.util.Map;
import java.util.Set;
import java.util.TreeSet;

/**
 * A run of calls on a new object, each with the answer that is due. The calls are kept, so that all that shows of the
 * object can be read from others that have had the same calls: no object ever has more than the 512 calls of which the
 * document promises anything.
 */
final class Run {
    static final String NO_SHELF = "throws.IndexOutOfBoundsException";
    static final String NO_ELEMENT = "throws.NoSuchElementException";
    static final String STATE = "throws.IllegalStateException";
    static final String FAULT = "throws.IllegalArgumentException";
    static final String BIG = "throws.UnsupportedOperationException";

    private static final int CALLS_MOST = 512;
    private static final int TAPE_MOST = 2000;
    private static final Set<String> USING_THE_TAPE = Set.of("take", "find", "path", "value", "put", "name", "write", "open");
    private static final Map<String, Method> FACE = new HashMap<>();

    static {
        for (Method method : SpanShelves.class.getMethods()) {
            if (method.getDeclaringClass() == SpanShelves.class) {
                FACE.put(method.getName(), method);
            }
        }
    }

    private record Call(Method method, Object[] arguments) {
        static Call of(String text) {
            int bracket = text.indexOf('(');
            Method method = FACE.get(text.substring(0, bracket));
            String inside = text.substring(bracket + 1, text.length() - 1);
            String[] words = inside.isEmpty() ? new String[0] : inside.split(", ");
            Object[] arguments = new Object[words.length];
            for (int k = 0; k < words.length; k++) {
                boolean isLong = method.getParameterTypes()[k] == long.class;
                arguments[k] = isLong ? (Object) Long.valueOf(words[k]) : (Object) Integer.valueOf(words[k]);
            }
            return new Call(method, arguments);
        }

        String answerOf(SpanShelves x) {
            try {
                return String.valueOf(method.invoke(x, arguments));
            } catch (InvocationTargetException e) {
                return "throws." + e.getCause().getClass().getSimpleName();
            } catch (IllegalAccessException e) {
                throw new IllegalStateException(e);
            }
        }
    }

    private final Checks checks;
    private final String title;
    private final SpanShelves x = new SpanShelves();
    private final List<Call> calls = new ArrayList<>();

    Run(Checks checks, String title) {
        this.checks = checks;
        this.title = title;
    }

    /** The names of all methods that there are to call. */
    static Set<String> face() {
        return new TreeSet<>(FACE.keySet());
    }

    private String make(String text) {
        Call call = Call.of(text);
        calls.add(call);
        if (calls.size() > CALLS_MOST) {
            throw new IllegalStateException("the test makes too many calls: " + title);
        }
        return call.answerOf(x);
    }

    /** Calls whose answers do not matter here. */
    Run first(String... texts) {
        for (String text : texts) {
            make(text);
        }
        return this;
    }

    Run due(String text, Object answer) {
        checks.same(title + ": " + text, answer, make(text));
        return this;
    }

    /** Replaces what the tape has. */
    Run tape(byte[]... parts) {
        byte[] bytes = Bytes.join(parts);
        if (bytes.length > TAPE_MOST) {
            throw new IllegalStateException("the test's bytes do not fit on the tape: " + title);
        }
        make("end(0)");
        for (int i = 0; i < bytes.length; i += 20) {
            StringBuilder numbers = new StringBuilder().append(Bytes.four(bytes, i));
            for (int k = 4; k < 20; k += 4) {
                numbers.append(", ").append(Bytes.four(bytes, i + k));
            }
            make("feed(" + numbers + ")");
        }
        make("end(" + bytes.length + ")");
        return this;
    }

    Run take(int shelf, byte[] document) {
        return tape(document).due("take(" + shelf + ")", document.length);
    }

    /** A shelf gets a document of so many bytes: these elements, then f and g of type 5. Its cursor is at element 0. */
    Run fill(int shelf, int size, byte[]... elements) {
        byte[] given = Bytes.join(elements);
        take(shelf, Bytes.doc(given, Bytes.el(5, "f", Bytes.binary(0, Bytes.zeros(1000 - given.length)))));
        tape(Bytes.nm("g"), Bytes.binary(0, Bytes.zeros(size - 1013 - 8)));
        due("put(" + shelf + ", " + (elements.length + 1) + ", 5)", size);
        return first("go(" + shelf + ", 0)");
    }

    // ---- what shows, read from others that have had the same calls

    private List<String> read(List<String> questions) {
        List<String> answers = new ArrayList<>();
        SpanShelves other = null;
        int left = 0;
        for (String question : questions) {
            if (left == 0) {
                other = again();
                left = CALLS_MOST - calls.size();
            }
            answers.add(Call.of(question).answerOf(other));
            left--;
        }
        return answers;
    }

    private SpanShelves again() {
        if (calls.size() >= CALLS_MOST) {
            throw new IllegalStateException("the test leaves no call to read with: " + title);
        }
        SpanShelves other = new SpanShelves();
        for (Call call : calls) {
            call.answerOf(other);
        }
        return other;
    }

    private List<String> range(String before, int start, int end) {
        List<String> questions = new ArrayList<>();
        for (int i = start; i < end; i++) {
            questions.add(before + i + ")");
        }
        return read(questions);
    }

    int number(String question) {
        return Integer.parseInt(read(List.of(question)).get(0));
    }

    private String bytes(String before, int size) {
        StringBuilder out = new StringBuilder();
        for (String answer : range(before, 0, size)) {
            out.append(String.format("%02x", Integer.parseInt(answer)));
        }
        return out.toString();
    }

    String shelf(int shelf) {
        return bytes("byteAt(" + shelf + ", ", number("look(" + shelf + ", 0)"));
    }

    String sheet() {
        return bytes("sheetAt(", number("sheet(1)"));
    }

    private List<String> state() {
        List<String> out = new ArrayList<>();
        for (int s = 0; s < 4; s++) {
            out.add("shelf " + s + " " + shelf(s));
            out.add("shelf " + s + " " + range("look(" + s + ", ", 0, 11));
        }
        out.add("latest " + range("latest(", 0, 4));
        out.add("sheet " + sheet());
        out.add("sheet " + range("sheet(", 0, 4));
        return out;
    }

    private String faults() {
        return range("fault(", 0, 2).toString();
    }

    // ---- what is due of what shows

    Run holds(int shelf, byte[] document) {
        checks.same(title + ": shelf " + shelf, Bytes.show(document), shelf(shelf));
        return this;
    }

    Run sheetHolds(byte[]... parts) {
        checks.same(title + ": the sheet", Bytes.show(Bytes.join(parts)), sheet());
        return this;
    }

    /** What look() answers, from what 0 on. */
    Run looks(int shelf, int... answers) {
        checks.same(title + ": look " + shelf, list(answers), range("look(" + shelf + ", ", 0, answers.length));
        return this;
    }

    Run fault(int number, int place) {
        checks.same(title + ": fault", list(number, place), faults());
        return this;
    }

    Run latest(int place, int lengths, int more, int shelf) {
        checks.same(title + ": latest", list(place, lengths, more, shelf), range("latest(", 0, 4));
        return this;
    }

    Run sheet(int state, int bytes, int open, int elements) {
        checks.same(title + ": sheet", list(state, bytes, open, elements), range("sheet(", 0, 4));
        return this;
    }

    private static List<Integer> list(int... numbers) {
        List<Integer> out = new ArrayList<>();
        for (int number : numbers) {
            out.add(number);
        }
        return out;
    }

    private Run leavingAll(String text, Object answer, String faultsDue) {
        List<String> before = state();
        boolean usesTape = USING_THE_TAPE.contains(text.substring(0, text.indexOf('(')));
        int tapedDue = usesTape ? 0 : number("taped()");
        due(text, answer);
        List<String> behind = state();
        for (int k = 0; k < before.size(); k++) {
            checks.same(title + ": behind " + text, before.get(k), behind.get(k));
        }
        checks.same(title + ": behind " + text + ", taped()", tapedDue, number("taped()"));
        checks.same(title + ": behind " + text + ", fault", faultsDue, faults());
        return this;
    }

    /** The call answers so (or throws, ahead of any judging) and changes nothing, but for a tape that it uses up. */
    Run idle(String text, Object answer) {
        return leavingAll(text, answer, faults());
    }

    /** The call throws for a fault and changes nothing else. */
    Run faulty(String text, int number, int place) {
        return leavingAll(text, FAULT, list(number, place).toString());
    }

    /** The call throws for what would be too big, and changes nothing else. */
    Run big(String text) {
        return leavingAll(text, BIG, list(0, SpanShelves.NONE).toString());
    }
}
