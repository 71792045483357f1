/** Counts and prints the answers that are not as due. */
final class Checks {
    private final String title;
    private int wrong = 0;
    private int all = 0;

    Checks(String title) {
        this.title = title;
    }

    void same(String what, Object due, Object got) {
        all++;
        String dueText = String.valueOf(due);
        String gotText = String.valueOf(got);
        if (!dueText.equals(gotText)) {
            wrong++;
            if (wrong <= 40) {
                int from = firstDifference(dueText, gotText);
                System.out.println(title + ": " + what + " answered " + part(gotText, from) + ", due is " + part(dueText, from));
            }
        }
    }

    private static int firstDifference(String a, String b) {
        int k = 0;
        while (k < a.length() && k < b.length() && a.charAt(k) == b.charAt(k)) {
            k++;
        }
        return k;
    }

    /** Of a long text the part around that place alone. */
    private static String part(String text, int place) {
        if (text.length() <= 200) {
            return text;
        }
        int start = Math.max(0, place - 40);
        return (start > 0 ? ".. (from " + start + " on) " : "") + text.substring(start, Math.min(text.length(), place + 100)) + " ..";
    }

    boolean isClean() {
        return wrong == 0;
    }

    void finish() {
        System.out.println(title + ": " + all + " answers, " + wrong + " not as due");
        if (wrong != 0) {
            System.exit(1);
        }
    }
}
