import java.util.function.Supplier;
import java.util.function.ToLongFunction;

/**
 * All that can be known of a state by its calls. The state is told by a recipe, and made anew when
 * an object has had its 512 calls, or when a question changes it.
 */
final class Asked {
    private static final int[] ERRORS = {0, 1, 3, 20, 40, 90, 500, 999, 999999999, 1000000000};

    private final Supplier<Face> recipe;
    private final StringBuilder said = new StringBuilder();
    private Face x;

    private Asked(Supplier<Face> recipe) {
        this.recipe = recipe;
        x = recipe.get();
    }

    static String all(Supplier<Face> recipe) {
        Asked asked = new Asked(recipe);
        int coders = (int) asked.number(t -> t.told(0));
        int pictures = (int) asked.number(t -> t.told(1));
        asked.text();
        asked.counts();
        asked.coders(coders);
        asked.pictures(pictures);
        for (int coder = 0; coder < coders; coder++) {
            for (int picture = 0; picture < pictures; picture++) {
                asked.hull(coder, picture);
            }
        }
        asked.pointsOfPairs(coders, pictures);
        asked.whatComesNext();
        return asked.said.toString();
    }

    private String ask(ToLongFunction<Face> question) {
        if (x.left() < 1) {
            x = recipe.get();
        }
        String answer = Check.answer(() -> question.applyAsLong(x));
        said.append(' ').append(answer);
        return answer;
    }

    private long number(ToLongFunction<Face> question) {
        return Long.parseLong(ask(question));
    }

    private void head(String name) {
        said.append('\n').append(name);
    }

    private void text() {
        head("text");
        boolean more = true;
        for (int k = 0; more && k < Check.MAX_TEXT; k++) {
            int i = k;
            more = !ask(t -> t.charAt(i)).startsWith("throws.");
        }
    }

    private void counts() {
        head("told");
        ask(t -> t.told(2));
        ask(t -> t.told(3));
        head("failed");
        long failed = number(Face::failed);
        for (int k = 0; k < failed; k++) {
            int place = k;
            ask(t -> t.failing(place, 0));
            ask(t -> t.failing(place, 1));
        }
    }

    private void coders(int coders) {
        for (int k = 0; k < coders; k++) {
            int coder = k;
            head("coder");
            ask(t -> t.sum(coder));
            ask(t -> t.mean(coder, true));
            ask(t -> t.mean(coder, false));
            ask(t -> t.rank(coder));
        }
    }

    private void pictures(int pictures) {
        for (int k = 0; k < pictures; k++) {
            int picture = k;
            head("least");
            for (int error : ERRORS) {
                ask(t -> t.least(picture, error));
            }
        }
    }

    private void hull(int coder, int picture) {
        head("hull");
        long size = number(t -> t.hull(coder, picture));
        for (int k = 0; k < size; k++) {
            int point = k;
            ask(t -> t.onHull(coder, picture, point, 0));
            ask(t -> t.onHull(coder, picture, point, 1));
        }
    }

    /** Only by its failing a pair tells how many points it has, those off the hull, too. */
    private void pointsOfPairs(int coders, int pictures) {
        head("points");
        for (int pair = 0; pair < coders * pictures; pair++) {
            int coder = pair / pictures;
            int picture = pair % pictures;
            ask(t -> t.fails(coder, picture));
        }
    }

    private void whatComesNext() {
        head("next");
        x = recipe.get();
        ask(Face::coder);
        ask(Face::picture);
    }
}
