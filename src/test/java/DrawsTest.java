/** Promises 16 and 17: draws and fill; the model's row of numbers is worked out without wrap-around. */
final class DrawsTest {
    private static final long[] SEEDS = {0, 1, 5, -1, 1L << 33, Long.MAX_VALUE, Long.MIN_VALUE, 987654321987L};

    public static void main(String[] args) {
        draws();
        drawsAtTheEdges();
        wrongDraws();
        fill();
        fillAnew();
        Check.end();
    }

    private static Face model(int coders, int pictures) {
        return Check.sized(new Model(), coders, pictures);
    }

    private static void both(Face x, Face due, int coder, int picture, int bytes) {
        x.point(coder, picture, bytes, 1);
        due.point(coder, picture, bytes, 1);
    }

    private static void draws() {
        Face x = Check.tables(3, 7);
        Face due = model(3, 7);
        int[] one = {10, 1, 500, 30, 900, 20, 7};
        int[] other = {40, 0, 480, 31, 1, 15, 8};
        for (int picture = 0; picture < 7; picture++) {
            both(x, due, 0, picture, one[picture] + 3);
            both(x, due, 0, picture, one[picture]);
            if (other[picture] != 0) {
                both(x, due, 2, picture, other[picture]);
                both(x, due, 2, picture, other[picture] + 100);
            }
        }
        x.fails(0, 4);
        due.fails(0, 4);
        for (long seed : SEEDS) {
            for (int times : new int[] {0, 1, 2, 17, 200}) {
                Check.is("draws " + seed, x.draws(0, 2, seed, times), due.draws(0, 2, seed, times));
                Check.is("back " + seed, x.draws(2, 0, seed, times), due.draws(2, 0, seed, times));
            }
        }
        Check.is("with itself", x.draws(0, 0, 1, 200), 0);
    }

    private static void drawsAtTheEdges() {
        Face x = Check.tables(2, 24);
        Face due = model(2, 24);
        for (int picture = 0; picture < 24; picture++) {
            both(x, due, 0, picture, picture % 2 == 0 ? 1 : 1000000000);
            both(x, due, 1, picture, picture % 2 == 0 ? 999999999 : 2 + picture);
        }
        for (long seed : SEEDS) {
            Check.is("24 pictures", x.draws(0, 1, seed, 200), due.draws(0, 1, seed, 200));
        }
        Face single = Check.tables(2, 1);
        single.point(0, 0, 1, 0);
        single.point(1, 0, 2, 0);
        Check.is("one picture, less", single.draws(0, 1, 3, 200), 200);
        Check.is("one picture, more", single.draws(1, 0, 3, 200), 0);
        Check.is("one picture, 0 times", single.draws(0, 1, 3, 0), 0);
    }

    private static void wrongDraws() {
        Face x = Check.tables(2, 2);
        x.point(0, 0, 1, 0);
        x.point(1, 1, 2, 0);
        Check.state("no such picture", () -> x.draws(0, 1, 1, 1));
        Check.state("no such picture, 0 times", () -> x.draws(0, 1, 1, 0));
        Check.argument("times -1", () -> x.draws(0, 1, 1, -1));
        Check.argument("times 201", () -> x.draws(0, 1, 1, 201));
        Check.index("one 2, times 201", () -> x.draws(2, 0, 1, 201));
        Check.index("one -1", () -> x.draws(-1, 0, 1, 1));
        Check.index("other 2", () -> x.draws(0, 2, 1, 1));
        Check.index("other -1, times -1", () -> x.draws(0, -1, 1, -1));
        x.point(0, 1, 1, 0);
        Check.is("200 times", x.draws(0, 1, 1, 200), 200);
        x.fails(1, 1);
        Check.state("failed", () -> x.draws(0, 1, 1, 1));
    }

    private static void fill() {
        filledAsDue(8, 24, SEEDS);
        filledAsDue(3, 2, SEEDS);
        filledAsDue(8, 0, SEEDS);
        filledAsDue(0, 24, SEEDS);
        Face x = Check.tables(8, 24);
        Check.is("fill by 1", x.fill(1), 456);
        Check.is("points", x.told(2), 456);
        Check.is("counted", x.told(3), 140);
        Check.is("failed", x.failed(), 26);
    }

    private static void filledAsDue(int coders, int pictures, long[] seeds) {
        for (long seed : seeds) {
            String name = coders + " by " + pictures + ", seed " + seed;
            Check.is(name, Check.tables(coders, pictures).fill(seed), model(coders, pictures).fill(seed));
            Check.same(name, Asked.all(() -> filled(Check.tables(coders, pictures), seed)),
                Asked.all(() -> filled(model(coders, pictures), seed)));
        }
    }

    private static Face filled(Face x, long seed) {
        x.fill(seed);
        return x;
    }

    private static Face filledAnew() {
        Face x = Check.tables(4, 5);
        Check.points(x, 0, 0, 1, 0, 2, 0, 3, 0, 4, 0, 5, 0, 6, 0);
        x.fails(3, 4);
        return filled(x, 10);
    }

    private static void fillAnew() {
        Check.same("filled anew", Asked.all(DrawsTest::filledAnew),
            Asked.all(() -> filled(Check.tables(4, 5), 10)));
        Face x = Check.tables(4, 5);
        x.point(0, 0, 1, 0);
        x.text();
        String kept = Check.kept(x);
        x.fill(10);
        Check.same("fill keeps the text", Check.kept(x), kept);
        Check.is("coders stay", x.told(0), 4);
        Check.is("pictures stay", x.told(1), 5);
    }
}
