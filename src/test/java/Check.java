import java.util.Objects;

/** What the tests share: they say what is due, and end with exit code 1 if something was not. */
final class Check {
    interface Call {
        long answer();
    }

    private static int checked = 0;
    private static int wrong = 0;

    private Check() {
    }

    static void is(String what, long got, long due) {
        same(what, Long.toString(got), Long.toString(due));
    }

    static void same(String what, String got, String due) {
        checked++;
        if (!Objects.equals(got, due)) {
            wrong++;
            System.out.println(what + " answered " + got + ", due is " + due);
        }
    }

    /** An answer as a word; an exception by its own class, so that one of the machine's stands out. */
    static String answer(Call call) {
        try {
            return Long.toString(call.answer());
        } catch (RuntimeException e) {
            return "throws." + e.getClass().getSimpleName();
        }
    }

    static void index(String what, Call call) {
        same(what, answer(call), "throws.IndexOutOfBoundsException");
    }

    static void argument(String what, Call call) {
        same(what, answer(call), "throws.IllegalArgumentException");
    }

    static void state(String what, Call call) {
        same(what, answer(call), "throws.IllegalStateException");
    }

    static void unsupported(String what, Call call) {
        same(what, answer(call), "throws.UnsupportedOperationException");
    }

    static CoderTables tables(int coders, int pictures) {
        CoderTables x = new CoderTables();
        for (int k = 0; k < coders; k++) {
            x.coder();
        }
        for (int k = 0; k < pictures; k++) {
            x.picture();
        }
        return x;
    }

    /** Points as bytes, error, bytes, error .. */
    static void points(CoderTables x, int coder, int picture, int... amounts) {
        for (int k = 0; k + 1 < amounts.length; k += 2) {
            x.point(coder, picture, amounts[k], amounts[k + 1]);
        }
    }

    /** The text that was made last, read without making it anew. */
    static String kept(CoderTables x) {
        StringBuilder read = new StringBuilder();
        for (int i = 0; i < 1000; i++) {
            int at = i;
            String c = answer(() -> x.charAt(at));
            if (c.startsWith("throws.")) {
                break;
            }
            read.append((char) Integer.parseInt(c));
        }
        return read.toString();
    }

    static void end() {
        System.out.println(checked + " checked, " + wrong + " wrong");
        if (wrong != 0 || checked == 0) {
            System.exit(1);
        }
    }
}
