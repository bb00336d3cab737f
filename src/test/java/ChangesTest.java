import java.util.function.Consumer;
import java.util.function.Supplier;
import java.util.function.ToLongFunction;

/** What each call changes, and what it leaves alone: of its own object, and of another one. */
final class ChangesTest {
    public static void main(String[] args) {
        askingChangesNothing();
        textChangesTheTextAlone();
        textStays();
        lateCodersAndPictures();
        pointsOfOtherPairs();
        failingTakesThePoints();
        fillForgetsAll();
        fillKeepsCodersAndPictures();
        clearForgetsAll();
        twoObjects();
        twoObjectsByTurns();
        twoObjectsBySeeds();
        Check.end();
    }

    private static void unchanged(String name, ToLongFunction<Face> call) {
        Check.same("the state after " + name, Asked.all(() -> {
            Face x = RefusedTest.small();
            call.applyAsLong(x);
            return x;
        }), Asked.all(RefusedTest::small));
    }

    private static void askingChangesNothing() {
        Check.says("Nothing is promised beyond the answers and state changes described above");
        unchanged("failed", Face::failed);
        unchanged("least", t -> t.least(0, 50));
        unchanged("least of none", t -> t.least(3, 0));
        unchanged("sum", t -> t.sum(1));
        unchanged("sum of none", t -> t.sum(2));
        unchanged("rank", t -> t.rank(0));
        unchanged("hull", t -> t.hull(0, 0));
        unchanged("hull of none", t -> t.hull(0, 1));
        unchanged("draws", t -> t.draws(0, 1, 99, 200));
        unchanged("draws of 0 times", t -> t.draws(0, 1, 99, 0));
        unchanged("charAt", t -> t.charAt(3));
        for (int k = 0; k < 2; k++) {
            int what = k;
            boolean side = k == 0;
            unchanged("failing", t -> t.failing(1, what));
            unchanged("mean", t -> t.mean(1, side));
            unchanged("onHull", t -> t.onHull(0, 0, 1, what));
            unchanged("slope", t -> t.slope(0, 0, 1, side));
        }
        for (int k = -1; k < 5; k++) {
            int what = k;
            unchanged("told", t -> t.told(what));
        }
        for (int k = 0; k < 4; k++) {
            int what = k;
            unchanged("signs", t -> t.signs(1, 0, what));
        }
    }

    private static String withoutText(String asked) {
        StringBuilder rest = new StringBuilder();
        for (String line : asked.split("\n")) {
            if (!line.startsWith("text")) {
                rest.append(line).append('\n');
            }
        }
        return rest.toString();
    }

    private static Face withText() {
        Face x = RefusedTest.small();
        x.text();
        return x;
    }

    private static void textChangesTheTextAlone() {
        Check.says("Promise 18: The text");
        Check.same("all but the text", withoutText(Asked.all(ChangesTest::withText)),
            withoutText(Asked.all(RefusedTest::small)));
        Check.same("before", Check.kept(RefusedTest.small()), "0 10 2\n1 11 4\n2 -\n");
        Check.same("after", Check.kept(withText()), "0 10 4\n1 14 2\n2 -\n");
        Check.same("made twice", Asked.all(() -> {
            Face x = withText();
            x.text();
            return x;
        }), Asked.all(ChangesTest::withText));
    }

    private static void keepsText(String name, Consumer<Face> call) {
        Face x = RefusedTest.small();
        call.accept(x);
        Check.same("the text after " + name, Check.kept(x), "0 10 2\n1 11 4\n2 -\n");
        Check.index("behind the text after " + name, () -> x.charAt(18));
    }

    private static void textStays() {
        Check.says("Promise 19: A character of what text() made last.");
        keepsText("coder", Face::coder);
        keepsText("picture", Face::picture);
        keepsText("point", t -> t.point(2, 0, 1, 1));
        keepsText("fails", t -> t.fails(0, 0));
        keepsText("fill", t -> t.fill(5));
        keepsText("all of them", t -> {
            t.coder();
            t.picture();
            t.point(3, 4, 1, 1);
            t.fails(0, 0);
            t.fill(5);
        });
    }

    private static Face early(int coders, int pictures) {
        Face x = Check.tables(3 + coders, 4 + pictures);
        Check.points(x, 0, 0, 10, 90, 20, 40, 30, 39);
        Check.points(x, 2, 3, 7, 7);
        x.fails(1, 2);
        x.text();
        return x;
    }

    private static Face late(int coders, int pictures) {
        Face x = Check.tables(3, 4);
        Check.points(x, 0, 0, 10, 90, 20, 40, 30, 39);
        Check.points(x, 2, 3, 7, 7);
        x.fails(1, 2);
        Check.sized(x, coders, pictures);
        x.text();
        return x;
    }

    private static void lateCodersAndPictures() {
        Check.says("Promises 2 and 3: a new coder, a new picture, and nothing of the others changes");
        Check.same("a coder", Asked.all(() -> late(1, 0)), Asked.all(() -> early(1, 0)));
        Check.same("a picture", Asked.all(() -> late(0, 1)), Asked.all(() -> early(0, 1)));
        Check.same("all", Asked.all(() -> late(5, 20)), Asked.all(() -> early(5, 20)));
    }

    private static Face filledPairs(int first, int step) {
        Face x = Check.tables(3, 3);
        for (int k = 0; k < 9; k++) {
            int pair = (first + k * step) % 9;
            for (int point = 0; point < pair % 7; point++) {
                x.point(pair / 3, pair % 3, 10 * pair + 6 - point, point * point + pair);
            }
        }
        return x;
    }

    private static void pointsOfOtherPairs() {
        Check.says("Promise 4: A point comes to a pair, and to no other one");
        String due = Asked.all(() -> filledPairs(0, 1));
        for (int step : new int[] {1, 2, 4, 5, 7, 8}) {
            for (int first = 0; first < 9; first += 4) {
                int from = first;
                Check.same("another order of pairs", Asked.all(() -> filledPairs(from, step)), due);
            }
        }
    }

    private static void failingTakesThePoints() {
        Check.says("Promise 5: A pair has failed; its points go");
        Check.same("as if it had had none", Asked.all(() -> {
            Face x = filledPairs(0, 1);
            x.fails(2, 0);
            return x;
        }), Asked.all(() -> {
            Face x = Check.tables(3, 3);
            x.fails(2, 0);
            for (int pair = 0; pair < 9; pair++) {
                for (int point = 0; pair != 6 && point < pair % 7; point++) {
                    x.point(pair / 3, pair % 3, 10 * pair + 6 - point, point * point + pair);
                }
            }
            return x;
        }));
    }

    private static Face filled(Face x, long seed) {
        x.fill(seed);
        x.text();
        return x;
    }

    private static void fillForgetsAll() {
        Check.says("Promise 17: All points and failures go");
        for (long seed : new long[] {0, 5, 12, 27, 81, -1}) {
            String due = Asked.all(() -> filled(Check.tables(3, 4), seed));
            Check.same("after points and failures by " + seed,
                Asked.all(() -> filled(RefusedTest.small(), seed)), due);
            Check.same("after another fill by " + seed,
                Asked.all(() -> filled(filled(Check.tables(3, 4), 3), seed)), due);
            Check.same("after the same fill by " + seed,
                Asked.all(() -> filled(filled(Check.tables(3, 4), seed), seed)), due);
        }
    }

    private static void fillKeepsCodersAndPictures() {
        Check.says("Promise 17: for each pair that there is");
        Face x = RefusedTest.small();
        Check.is("fill", x.fill(5), x.told(2));
        Check.is("coders", x.told(0), 3);
        Check.is("pictures", x.told(1), 4);
        Check.is("the next coder", x.coder(), 3);
        Check.is("the next picture", x.picture(), 4);
        for (int picture = 0; picture < 5; picture++) {
            Check.is("a coder that came later has no points", x.fails(3, picture), 0);
        }
        for (int coder = 0; coder < 3; coder++) {
            Check.is("a picture that came later has no points", x.fails(coder, 4), 0);
        }
    }

    private static void clearForgetsAll() {
        Check.says("Promise 21: No coders, no pictures, no text.");
        Check.same("as new", Asked.all(() -> {
            Face x = RefusedTest.small();
            x.clear();
            return x;
        }), Asked.all(Table::new));
        Check.same("and filled anew", Asked.all(() -> {
            Face x = RefusedTest.small();
            x.clear();
            return filled(Check.sized(x, 8, 24), 5);
        }), Asked.all(() -> filled(Check.tables(8, 24), 5)));
    }

    /** Each object has other counts, points, failures and another text than the other one. */
    private static Face oneOfTwo(boolean first) {
        Face x = new Table();
        Face y = new Table();
        for (int k = 0; k < 3; k++) {
            Check.is("coder", x.coder(), k);
            Check.is("other coder", y.coder(), k);
            Check.is("picture", x.picture(), k);
        }
        Check.is("other picture", y.picture(), 0);
        Check.is("picture", x.picture(), 3);
        Check.is("point", x.point(1, 0, 9, 9), 1);
        Check.is("other point", y.point(1, 0, 5, 5), 1);
        Check.is("point", x.point(1, 0, 19, 3), 2);
        Check.is("fails", x.fails(0, 0), 0);
        Check.is("other fails", y.fails(2, 0), 0);
        Check.is("text", x.text(), 14);
        Check.is("other text", y.text(), 14);
        Check.is("point", x.point(2, 3, 1, 1), 1);
        return first ? x : y;
    }

    private static void twoObjects() {
        Check.says("Promise 1: A new object");
        Check.same("the first one", Asked.all(() -> oneOfTwo(true)), Asked.all(() -> {
            Face x = Check.tables(3, 4);
            Check.points(x, 1, 0, 9, 9, 19, 3);
            x.fails(0, 0);
            x.text();
            x.point(2, 3, 1, 1);
            return x;
        }));
        Check.same("the second one", Asked.all(() -> oneOfTwo(false)), Asked.all(() -> {
            Face x = Check.tables(3, 1);
            Check.points(x, 1, 0, 5, 5);
            x.fails(2, 0);
            x.text();
            return x;
        }));
    }

    private static void byTurns(String name, Supplier<Face> one, Supplier<Face> other, ToLongFunction<Face> ask) {
        Face x = one.get();
        Face y = other.get();
        String dueOfOne = Check.answer(() -> ask.applyAsLong(one.get()));
        String dueOfOther = Check.answer(() -> ask.applyAsLong(other.get()));
        for (int turn = 0; turn < 3; turn++) {
            Check.same(name, Check.answer(() -> ask.applyAsLong(x)), dueOfOne);
            Check.same("other " + name, Check.answer(() -> ask.applyAsLong(y)), dueOfOther);
        }
    }

    private static void twoObjectsByTurns() {
        Check.says("Promise 1: A new object");
        Supplier<Face> one = ChangesTest::withText;
        Supplier<Face> other = () -> filled(Check.tables(2, 3), 81);
        byTurns("sum", one, other, t -> t.sum(1));
        byTurns("mean", one, other, t -> t.mean(1, true));
        byTurns("rank", one, other, t -> t.rank(0));
        byTurns("least", one, other, t -> t.least(0, 60));
        byTurns("hull", one, other, t -> t.hull(0, 0));
        byTurns("onHull", one, other, t -> t.onHull(0, 0, 0, 0));
        byTurns("slope", one, other, t -> t.slope(0, 0, 0, true));
        byTurns("signs", one, other, t -> t.signs(0, 1, 0));
        byTurns("draws", one, other, t -> t.draws(0, 1, 4, 200));
        byTurns("charAt", one, other, t -> t.charAt(2));
        byTurns("text", one, other, Face::text);
        byTurns("told", one, other, t -> t.told(2));
        byTurns("failed", one, other, Face::failed);
        byTurns("failing", one, other, t -> t.failing(0, 1));
        byTurns("fill", one, other, t -> t.fill(3));
    }

    private static void twoObjectsBySeeds() {
        Check.says("DRAWN AGAIN, by a seed");
        Face x = Check.tables(8, 24);
        Face y = Check.tables(8, 24);
        Check.is("fill by 0", x.fill(0), 544);
        Check.is("other fill by 1", y.fill(1), 456);
        Check.is("sum", x.sum(7), 4390);
        Check.is("other sum", y.sum(7), 3334);
        int due = x.draws(0, 1, 6, 200);
        int dueOfOther = y.draws(0, 1, 6, 200);
        for (int turn = 0; turn < 3; turn++) {
            Check.is("draws", x.draws(0, 1, 6, 200), due);
            y.fill(1);
            Check.is("other draws", y.draws(0, 1, 6, 200), dueOfOther);
        }
    }
}
