import java.util.Objects;

/** What the tests share: they say what is due, and end with exit code 1 if something was not. */
final class Check {
    /** Far above the longest text that there can be. */
    static final int MAX_TEXT = 200;

    interface Call {
        long answer();
    }

    private static String sentence = "";
    private static int checked = 0;
    private static int wrong = 0;

    private Check() {
    }

    /** The document's sentence that the checks from here on are about. */
    static void says(String words) {
        sentence = words;
    }

    static void is(String what, long got, long due) {
        same(what, Long.toString(got), Long.toString(due));
    }

    static void same(String what, String got, String due) {
        checked++;
        if (!Objects.equals(got, due)) {
            wrong++;
            System.out.println(what + " answered " + got + ", due is " + due
                + (sentence.isEmpty() ? "" : " (" + sentence + ")"));
        }
    }

    /** An answer as a word; an exception by its own class, so that one of the machine's stands out. */
    static String answer(Call call) {
        try {
            return Long.toString(call.answer());
        } catch (RuntimeException e) {
            return "throws." + e.getClass().getSimpleName();
        }
    }

    static void index(String what, Call call) {
        same(what, answer(call), "throws.IndexOutOfBoundsException");
    }

    static void argument(String what, Call call) {
        same(what, answer(call), "throws.IllegalArgumentException");
    }

    static void state(String what, Call call) {
        same(what, answer(call), "throws.IllegalStateException");
    }

    static void unsupported(String what, Call call) {
        same(what, answer(call), "throws.UnsupportedOperationException");
    }

    static Face tables(int coders, int pictures) {
        return sized(new Table(), coders, pictures);
    }

    static Face sized(Face x, int coders, int pictures) {
        for (int k = 0; k < coders; k++) {
            x.coder();
        }
        for (int k = 0; k < pictures; k++) {
            x.picture();
        }
        return x;
    }

    /** Points as bytes, error, bytes, error .. */
    static void points(Face x, int coder, int picture, int... amounts) {
        for (int k = 0; k + 1 < amounts.length; k += 2) {
            x.point(coder, picture, amounts[k], amounts[k + 1]);
        }
    }

    /** A point in each picture of a coder. */
    static void everyPicture(Face x, int coder, int pictures, int bytes) {
        for (int picture = 0; picture < pictures; picture++) {
            x.point(coder, picture, bytes, 0);
        }
    }

    /** The text that was made last, read without making it anew. */
    static String kept(Face x) {
        StringBuilder read = new StringBuilder();
        for (int i = 0; i < MAX_TEXT; i++) {
            int at = i;
            String c = answer(() -> x.charAt(at));
            if (c.startsWith("throws.")) {
                break;
            }
            read.append((char) Integer.parseInt(c));
        }
        return read.toString();
    }

    /** The hull of a pair as bytes, error, and slope to the next one. */
    static String hullOf(Face x, int coder, int picture) {
        StringBuilder said = new StringBuilder();
        int size = x.hull(coder, picture);
        for (int k = 0; k < size; k++) {
            said.append(x.onHull(coder, picture, k, 0)).append(',');
            said.append(x.onHull(coder, picture, k, 1)).append(' ');
            if (k + 1 < size) {
                said.append(x.slope(coder, picture, k, true)).append('/');
                said.append(x.slope(coder, picture, k, false)).append(' ');
            }
        }
        return said.toString();
    }

    static void end() {
        System.out.println(checked + " checked, " + wrong + " wrong");
        if (wrong != 0 || checked == 0) {
            System.exit(1);
        }
    }
}
