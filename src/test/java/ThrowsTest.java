import java.util.function.ToLongFunction;

/** A call that throws changes nothing; and a call that only asks changes nothing either. */
final class ThrowsTest {
    private static final int[] ODD = {Integer.MIN_VALUE, -1, 0, 1, 2, 7, 8, 24, 1000000001, Integer.MAX_VALUE};

    public static void main(String[] args) {
        full();
        wrongNumbers();
        asking();
        Check.end();
    }

    /** Eight coders by 24 pictures; (0, 0) has six points, (0, 1) has failed, (0, 2) is empty. */
    private static CoderTables table() {
        CoderTables x = Check.tables(8, 24);
        Check.points(x, 0, 0, 10, 90, 20, 40, 20, 50, 30, 35, 40, 0, 15, 95);
        x.fails(0, 1);
        Check.points(x, 1, 0, 11, 80, 12, 20);
        x.text();
        Check.points(x, 2, 5, 3, 3);
        return x;
    }

    private static void unchanged(String name, CoderTables x, String due, ToLongFunction<CoderTables> call) {
        String before = Model.snapshot(x);
        Check.same(name, Check.answer(() -> call.applyAsLong(x)), "throws." + due);
        Check.same("after " + name, Model.snapshot(x), before);
    }

    private static void full() {
        CoderTables x = table();
        unchanged("coder", x, "UnsupportedOperationException", CoderTables::coder);
        unchanged("picture", x, "UnsupportedOperationException", CoderTables::picture);
        unchanged("seventh point", x, "UnsupportedOperationException", t -> t.point(0, 0, 1, 0));
        unchanged("point of a failed pair", x, "IllegalStateException", t -> t.point(0, 1, 1, 0));
        unchanged("bytes 0", x, "IllegalArgumentException", t -> t.point(0, 2, 0, 0));
        unchanged("error -1", x, "IllegalArgumentException", t -> t.point(0, 2, 1, -1));
        unchanged("coder 8", x, "IndexOutOfBoundsException", t -> t.point(8, 0, 1, 0));
        unchanged("picture 24", x, "IndexOutOfBoundsException", t -> t.point(0, 24, 1, 0));
        unchanged("fails again", x, "IllegalStateException", t -> t.fails(0, 1));
        unchanged("fails outside", x, "IndexOutOfBoundsException", t -> t.fails(1, -1));
        unchanged("draws of nothing", x, "IllegalStateException", t -> t.draws(0, 2, 1, 5));
        unchanged("rank of nothing", x, "IllegalStateException", t -> t.rank(3));
        unchanged("mean of nothing", x, "IllegalStateException", t -> t.mean(3, true));
        x.fails(0, 0);
        unchanged("index before argument before state", x, "IndexOutOfBoundsException", t -> t.point(0, 24, 0, -1));
        unchanged("argument before state", x, "IllegalArgumentException", t -> t.point(0, 0, 0, 0));
    }

    /** With any numbers at all, what is thrown is one of the four by its own name. */
    private static void wrongNumbers() {
        CoderTables x = table();
        String before = Model.snapshot(x);
        for (int a : ODD) {
            for (int b : ODD) {
                for (int c : ODD) {
                    oneOfThem(() -> x.onHull(a, b, c, a));
                    oneOfThem(() -> x.slope(a, b, c, true));
                    oneOfThem(() -> x.signs(a, b, c));
                    oneOfThem(() -> x.draws(a, b, c, c));
                }
                oneOfThem(() -> x.hull(a, b));
                oneOfThem(() -> x.failing(a, b));
                oneOfThem(() -> x.least(a, b));
                oneOfThem(() -> x.point(a, b, 0, 0));
            }
            oneOfThem(() -> x.sum(a));
            oneOfThem(() -> x.mean(a, false));
            oneOfThem(() -> x.rank(a));
            oneOfThem(() -> x.charAt(a));
            oneOfThem(() -> x.told(a));
        }
        Check.same("after wrong numbers", Model.snapshot(x), before);
    }

    private static void oneOfThem(Check.Call call) {
        String answer = Check.answer(call);
        boolean fine = !answer.startsWith("throws.") || answer.equals("throws.IndexOutOfBoundsException")
            || answer.equals("throws.IllegalArgumentException") || answer.equals("throws.IllegalStateException");
        Check.same("what is thrown", fine ? "one of them" : answer, "one of them");
    }

    private static void asking() {
        CoderTables x = table();
        String before = Model.snapshot(x);
        x.draws(0, 1, 3, 200);
        x.signs(0, 1, 2);
        x.least(0, 5);
        x.mean(0, true);
        Check.same("after asking", Model.snapshot(x), before);
        int first = x.draws(0, 1, 3, 200);
        Check.is("the same seed again", x.draws(0, 1, 3, 200), first);
    }
}
