import java.util.function.Consumer;
import java.util.function.Supplier;
import java.util.function.ToLongFunction;

/**
 * Each call that is refused: with what it throws, which of several comes first, and that it changed
 * nothing. Two objects are compared in all that can be asked: one with the refused call, one without.
 */
final class RefusedTest {
    private static final String INDEX = "throws.IndexOutOfBoundsException";
    private static final String ARGUMENT = "throws.IllegalArgumentException";
    private static final String STATE = "throws.IllegalStateException";
    private static final String UNSUPPORTED = "throws.UnsupportedOperationException";

    private static final int LEAST = Integer.MIN_VALUE;
    private static final int GREATEST = Integer.MAX_VALUE;

    private final Supplier<Face> recipe;
    private final String before;

    private RefusedTest(Supplier<Face> recipe) {
        this.recipe = recipe;
        before = Asked.all(recipe);
    }

    public static void main(String[] args) {
        new RefusedTest(Table::new).onNew();
        RefusedTest small = new RefusedTest(RefusedTest::small);
        small.wrongCoders(new int[] {LEAST, -1, 3, 7, 8, GREATEST});
        small.wrongPictures(new int[] {LEAST, -1, 4, 23, 24, GREATEST});
        small.wrongPlaces();
        small.wrongAmounts();
        small.wrongWhats();
        small.wrongStates();
        small.indexBeforeArgument();
        small.argumentBeforeState();
        RefusedTest full = new RefusedTest(RefusedTest::full);
        full.wrongCoders(new int[] {LEAST, -1, 8, 9, GREATEST});
        full.wrongPictures(new int[] {LEAST, -1, 24, 25, GREATEST});
        full.tooMany();
        failedThatHadSix();
        refusedOverAndOver();
        Check.end();
    }

    /**
     * Three coders by four pictures: (0, 0) has six points, of which three are on the hull and one is
     * best off it; (0, 1) has failed, then (2, 3); (1, 0) has two points, (1, 2) one; the rest is empty,
     * and coder 2 has no counted pair. The text is older than the last point.
     */
    static Face small() {
        Face x = Check.tables(3, 4);
        Check.points(x, 0, 0, 10, 90, 20, 40, 20, 50, 30, 39, 40, 0, 15, 95);
        x.fails(0, 1);
        x.fails(2, 3);
        Check.points(x, 1, 0, 11, 80, 12, 20);
        x.text();
        Check.points(x, 1, 2, 3, 3);
        return x;
    }

    /** Eight coders by 24 pictures, with six points at both corners and a failure at the others. */
    private static Face full() {
        Face x = Check.tables(8, 24);
        Check.points(x, 0, 0, 6, 1, 5, 2, 4, 4, 3, 7, 2, 11, 1, 20);
        Check.points(x, 7, 23, 600, 1, 500, 2, 400, 4, 300, 7, 200, 11, 100, 20);
        x.fails(7, 0);
        x.fails(0, 23);
        x.text();
        return x;
    }

    private void refused(String name, String due, ToLongFunction<Face> call) {
        Face x = recipe.get();
        Check.same(name, Check.answer(() -> call.applyAsLong(x)), due);
        Check.same("the state after " + name, Asked.all(() -> with(call)), before);
    }

    private Face with(ToLongFunction<Face> call) {
        Face x = recipe.get();
        Check.answer(() -> call.applyAsLong(x));
        return x;
    }

    private void onNew() {
        Check.says("Promise 1: No coders and no pictures.");
        refused("point", INDEX, t -> t.point(0, 0, 1, 0));
        refused("fails", INDEX, t -> t.fails(0, 0));
        refused("failing", INDEX, t -> t.failing(0, 0));
        refused("least", INDEX, t -> t.least(0, 0));
        refused("sum", INDEX, t -> t.sum(0));
        refused("mean", INDEX, t -> t.mean(0, true));
        refused("rank", INDEX, t -> t.rank(0));
        refused("hull", INDEX, t -> t.hull(0, 0));
        refused("onHull", INDEX, t -> t.onHull(0, 0, 0, 0));
        refused("slope", INDEX, t -> t.slope(0, 0, 0, true));
        refused("signs", INDEX, t -> t.signs(0, 0, 0));
        refused("draws", INDEX, t -> t.draws(0, 0, 0, 0));
        refused("charAt", INDEX, t -> t.charAt(0));
    }

    private void wrongCoders(int[] wrong) {
        Check.says("IndexOutOfBounds: there is no such coder");
        for (int coder : wrong) {
            refused("point, coder " + coder, INDEX, t -> t.point(coder, 0, 1, 0));
            refused("fails, coder " + coder, INDEX, t -> t.fails(coder, 0));
            refused("sum, coder " + coder, INDEX, t -> t.sum(coder));
            refused("mean, coder " + coder, INDEX, t -> t.mean(coder, true));
            refused("mean, coder " + coder, INDEX, t -> t.mean(coder, false));
            refused("rank, coder " + coder, INDEX, t -> t.rank(coder));
            refused("hull, coder " + coder, INDEX, t -> t.hull(coder, 0));
            refused("onHull, coder " + coder, INDEX, t -> t.onHull(coder, 0, 0, 0));
            refused("slope, coder " + coder, INDEX, t -> t.slope(coder, 0, 0, true));
            refused("signs, one " + coder, INDEX, t -> t.signs(coder, 0, 0));
            refused("signs, other " + coder, INDEX, t -> t.signs(0, coder, 0));
            refused("draws, one " + coder, INDEX, t -> t.draws(coder, 0, 1, 1));
            refused("draws, other " + coder, INDEX, t -> t.draws(0, coder, 1, 1));
            refused("draws, both " + coder, INDEX, t -> t.draws(coder, coder, 1, 0));
        }
    }

    private void wrongPictures(int[] wrong) {
        Check.says("IndexOutOfBounds: there is no such .. picture");
        for (int picture : wrong) {
            refused("point, picture " + picture, INDEX, t -> t.point(0, picture, 1, 0));
            refused("fails, picture " + picture, INDEX, t -> t.fails(0, picture));
            refused("least, picture " + picture, INDEX, t -> t.least(picture, 0));
            refused("hull, picture " + picture, INDEX, t -> t.hull(0, picture));
            refused("onHull, picture " + picture, INDEX, t -> t.onHull(0, picture, 0, 0));
            refused("slope, picture " + picture, INDEX, t -> t.slope(0, picture, 0, false));
            refused("hull, both wrong", INDEX, t -> t.hull(picture, picture));
        }
    }

    private void wrongPlaces() {
        Check.says("IndexOutOfBounds: there is no such .. point, or character.");
        for (int k : new int[] {LEAST, -1, 3, 4, 6, GREATEST}) {
            refused("onHull, k " + k, INDEX, t -> t.onHull(0, 0, k, 0));
            refused("onHull, k " + k, INDEX, t -> t.onHull(0, 0, k, 1));
        }
        for (int k : new int[] {LEAST, -1, 2, 3, 5, GREATEST}) {
            refused("slope, k " + k, INDEX, t -> t.slope(0, 0, k, true));
            refused("slope, k " + k, INDEX, t -> t.slope(0, 0, k, false));
            refused("failing, k " + k, INDEX, t -> t.failing(k, 0));
            refused("failing, k " + k, INDEX, t -> t.failing(k, 1));
        }
        refused("slope, the only point", INDEX, t -> t.slope(1, 2, 0, true));
        refused("onHull, an empty pair", INDEX, t -> t.onHull(1, 1, 0, 0));
        refused("slope, an empty pair", INDEX, t -> t.slope(1, 1, 0, true));
        refused("onHull, a failed pair", INDEX, t -> t.onHull(0, 1, 0, 1));
        refused("slope, a failed pair", INDEX, t -> t.slope(0, 1, 0, false));
        for (int i : new int[] {LEAST, -1, 18, 19, 136, GREATEST}) {
            refused("charAt " + i, INDEX, t -> t.charAt(i));
        }
    }

    private void wrongAmounts() {
        Check.says("bytes, 1 .. 1000000000, and an error, 0 .. 1000000000");
        for (int bytes : new int[] {LEAST, -1, 0, 1000000001, GREATEST}) {
            refused("bytes " + bytes, ARGUMENT, t -> t.point(1, 1, bytes, 0));
            refused("bytes " + bytes + " to some", ARGUMENT, t -> t.point(1, 0, bytes, 0));
        }
        for (int error : new int[] {LEAST, -1, 1000000001, GREATEST}) {
            refused("error " + error, ARGUMENT, t -> t.point(1, 1, 1, error));
            refused("error " + error + " to some", ARGUMENT, t -> t.point(1, 0, 1, error));
        }
        Check.says("IllegalArgument: the error is below 0.");
        refused("least, error -1", ARGUMENT, t -> t.least(0, -1));
        refused("least, error -1, empty picture", ARGUMENT, t -> t.least(3, -1));
        refused("least, the least error", ARGUMENT, t -> t.least(0, LEAST));
        Check.says("IllegalArgument: the times are not 0 .. 200.");
        for (int times : new int[] {LEAST, -1, 201, GREATEST}) {
            refused("times " + times, ARGUMENT, t -> t.draws(0, 1, 1, times));
        }
    }

    private void wrongWhats() {
        Check.says("IllegalArgument: another number is none that is told.");
        for (int what : new int[] {LEAST, -1, 2, 3, GREATEST}) {
            refused("failing, what " + what, ARGUMENT, t -> t.failing(0, what));
            refused("failing, last place, what " + what, ARGUMENT, t -> t.failing(1, what));
            refused("onHull, what " + what, ARGUMENT, t -> t.onHull(0, 0, 0, what));
            refused("onHull, last point, what " + what, ARGUMENT, t -> t.onHull(0, 0, 2, what));
        }
        for (int what : new int[] {LEAST, -1, 4, 5, GREATEST}) {
            refused("signs, what " + what, ARGUMENT, t -> t.signs(0, 1, what));
            refused("signs, nothing in common, what " + what, ARGUMENT, t -> t.signs(0, 2, what));
        }
    }

    private void wrongStates() {
        Check.says("IllegalState: it has failed.");
        refused("point", STATE, t -> t.point(0, 1, 1, 0));
        refused("point, greatest", STATE, t -> t.point(2, 3, 1000000000, 1000000000));
        Check.says("IllegalState: it has failed already.");
        refused("fails", STATE, t -> t.fails(0, 1));
        refused("fails", STATE, t -> t.fails(2, 3));
        Check.says("IllegalState: it has no counted pair.");
        refused("mean, numerator", STATE, t -> t.mean(2, true));
        refused("mean, denominator", STATE, t -> t.mean(2, false));
        refused("rank", STATE, t -> t.rank(2));
        Check.says("IllegalState: there is no such picture.");
        refused("draws, other", STATE, t -> t.draws(0, 2, 1, 1));
        refused("draws, one", STATE, t -> t.draws(2, 0, 1, 200));
        refused("draws, both", STATE, t -> t.draws(2, 2, 1, 1));
        refused("draws, 0 times", STATE, t -> t.draws(0, 2, 1, 0));
        Check.says("UnsupportedOperation: it has six.");
        refused("point", UNSUPPORTED, t -> t.point(0, 0, 1, 0));
        refused("point, just the same", UNSUPPORTED, t -> t.point(0, 0, 10, 90));
    }

    private void tooMany() {
        Check.says("UnsupportedOperation: there would be more than there may be.");
        refused("coder", UNSUPPORTED, Face::coder);
        refused("picture", UNSUPPORTED, Face::picture);
        refused("point of the first pair", UNSUPPORTED, t -> t.point(0, 0, 1, 1));
        refused("point of the last pair", UNSUPPORTED, t -> t.point(7, 23, 1, 1));
        Check.says("IllegalState: it has failed already.");
        refused("fails, last coder", STATE, t -> t.fails(7, 0));
        refused("fails, last picture", STATE, t -> t.fails(0, 23));
    }

    private void indexBeforeArgument() {
        Check.says("Of several that a call names, the first one.");
        refused("point, coder and bytes", INDEX, t -> t.point(3, 0, 0, 0));
        refused("point, coder and error", INDEX, t -> t.point(-1, 0, 1, -1));
        refused("point, picture and bytes", INDEX, t -> t.point(0, 4, 1000000001, 0));
        refused("point, picture and error", INDEX, t -> t.point(0, -1, 1, 1000000001));
        refused("point, all four", INDEX, t -> t.point(3, 4, 0, -1));
        refused("failing, both", INDEX, t -> t.failing(2, 2));
        refused("failing, both", INDEX, t -> t.failing(-1, -1));
        refused("least, both", INDEX, t -> t.least(4, -1));
        refused("least, both", INDEX, t -> t.least(-1, LEAST));
        refused("onHull, coder and what", INDEX, t -> t.onHull(3, 0, 0, 2));
        refused("onHull, picture and what", INDEX, t -> t.onHull(0, 4, 0, 2));
        refused("onHull, k and what", INDEX, t -> t.onHull(0, 0, 3, 2));
        refused("onHull, k below and what", INDEX, t -> t.onHull(0, 0, -1, -1));
        refused("onHull, an empty pair and what", INDEX, t -> t.onHull(1, 1, 0, 2));
        refused("onHull, a failed pair and what", INDEX, t -> t.onHull(0, 1, 0, -1));
        refused("signs, one and what", INDEX, t -> t.signs(3, 0, 4));
        refused("signs, other and what", INDEX, t -> t.signs(0, -1, -1));
        refused("draws, one and times", INDEX, t -> t.draws(3, 0, 1, 201));
        refused("draws, other and times", INDEX, t -> t.draws(0, 3, 1, -1));
        refused("draws, other, times, nothing in common", INDEX, t -> t.draws(2, -1, 1, 201));
    }

    private void argumentBeforeState() {
        Check.says("Of several that a call names, the first one.");
        refused("point, bytes and failed", ARGUMENT, t -> t.point(0, 1, 0, 0));
        refused("point, error and failed", ARGUMENT, t -> t.point(0, 1, 1, -1));
        refused("point, bytes and six", ARGUMENT, t -> t.point(0, 0, 1000000001, 0));
        refused("point, error and six", ARGUMENT, t -> t.point(0, 0, 1, 1000000001));
        refused("point, bytes, error and six", ARGUMENT, t -> t.point(0, 0, 0, -1));
        refused("draws, times and nothing in common", ARGUMENT, t -> t.draws(0, 2, 1, 201));
        refused("draws, times and nothing in common", ARGUMENT, t -> t.draws(2, 0, 1, -1));
        refused("point, picture and six", INDEX, t -> t.point(0, 4, 1, 0));
        refused("point, coder and failed", INDEX, t -> t.point(3, 1, 1, 0));
        refused("fails, picture", INDEX, t -> t.fails(0, 4));
    }

    /** A pair that had six points and failed has failed: it is not full as well. */
    private static void failedThatHadSix() {
        Check.says("IllegalState: it has failed. UnsupportedOperation: it has six.");
        RefusedTest after = new RefusedTest(() -> {
            Face x = small();
            x.fails(0, 0);
            return x;
        });
        after.refused("point", STATE, t -> t.point(0, 0, 1, 0));
        after.refused("fails", STATE, t -> t.fails(0, 0));
    }

    /** Hundreds of refused calls: one that counted something in secret would have run out of room. */
    private static void refusedOverAndOver() {
        Check.says("A call that throws changes nothing.");
        overAndOver(RefusedTest::full, t -> Check.unsupported("coder", t::coder));
        overAndOver(RefusedTest::full, t -> Check.unsupported("picture", t::picture));
        overAndOver(RefusedTest::full, t -> Check.unsupported("point", () -> t.point(0, 0, 1, 1)));
        overAndOver(RefusedTest::full, t -> Check.state("point", () -> t.point(7, 0, 1, 1)));
        overAndOver(RefusedTest::full, t -> Check.argument("point", () -> t.point(7, 1, 0, 1)));
        overAndOver(RefusedTest::full, t -> Check.state("fails", () -> t.fails(7, 0)));
        overAndOver(RefusedTest::small, t -> Check.index("point", () -> t.point(2, 4, 1, 1)));
        overAndOver(RefusedTest::small, t -> Check.index("fails", () -> t.fails(3, 0)));
    }

    private static void overAndOver(Supplier<Face> recipe, Consumer<Face> refusal) {
        String before = Asked.all(recipe);
        Check.same("the state after many refused calls", Asked.all(() -> {
            Face x = recipe.get();
            for (int k = 0; k < 250; k++) {
                refusal.accept(x);
            }
            return x;
        }), before);
    }
}
