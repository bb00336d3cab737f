/** Promise 15: the test of signs, with odds that were worked out by hand. */
final class SignsTest {
    public static void main(String[] args) {
        winsAndLosses();
        odds();
        wrong();
        Check.end();
    }

    /** Two coders, of which the first wins, then loses, then is even with the other. */
    private static Face match(int wins, int losses, int even) {
        Face x = Check.tables(3, wins + losses + even);
        for (int picture = 0; picture < wins + losses + even; picture++) {
            x.point(0, picture, 100, 0);
            x.point(2, picture, picture < wins ? 101 : picture < wins + losses ? 99 : 100, 0);
        }
        return x;
    }

    private static void signsAre(int wins, int losses, int even, long numerator, long denominator) {
        Face x = match(wins, losses, even);
        String name = wins + " : " + losses;
        Check.is(name + " w", x.signs(0, 2, 0), wins);
        Check.is(name + " l", x.signs(0, 2, 1), losses);
        Check.is(name + " numerator", x.signs(0, 2, 2), numerator);
        Check.is(name + " denominator", x.signs(0, 2, 3), denominator);
        Check.is(name + " w from the other side", x.signs(2, 0, 0), losses);
        Check.is(name + " l from the other side", x.signs(2, 0, 1), wins);
        Check.is(name + " numerator from the other side", x.signs(2, 0, 2), numerator);
        Check.is(name + " denominator from the other side", x.signs(2, 0, 3), denominator);
    }

    private static void winsAndLosses() {
        Face x = Check.tables(2, 6);
        Check.points(x, 0, 0, 5, 0, 9, 0);
        Check.points(x, 1, 0, 6, 0, 7, 0);
        Check.points(x, 0, 1, 8, 0);
        Check.points(x, 1, 1, 9, 0, 7, 5);
        Check.points(x, 0, 2, 1, 0);
        Check.points(x, 1, 3, 1, 0);
        Check.points(x, 0, 4, 3, 0);
        Check.points(x, 1, 4, 3, 9);
        Check.points(x, 0, 5, 3, 0);
        x.fails(1, 5);
        Check.is("w", x.signs(0, 1, 0), 1);
        Check.is("l", x.signs(0, 1, 1), 1);
        Check.is("with itself: w", x.signs(0, 0, 0), 0);
        Check.is("with itself: l", x.signs(0, 0, 1), 0);
        Check.is("with itself: odds", x.signs(0, 0, 2), 1);
        Check.is("with itself: odds", x.signs(0, 0, 3), 1);
    }

    private static void odds() {
        signsAre(0, 0, 0, 1, 1);
        signsAre(0, 0, 5, 1, 1);
        signsAre(1, 0, 0, 1, 1);
        signsAre(1, 1, 0, 1, 1);
        signsAre(2, 0, 1, 1, 2);
        signsAre(2, 1, 0, 1, 1);
        signsAre(3, 1, 0, 5, 8);
        signsAre(6, 2, 3, 37, 128);
        signsAre(5, 0, 0, 1, 16);
        signsAre(24, 0, 0, 1, 8388608);
        signsAre(23, 1, 0, 25, 8388608);
        signsAre(22, 2, 0, 301, 8388608);
        signsAre(12, 12, 0, 1, 1);
        signsAre(12, 11, 1, 1, 1);
        // 2^23 less half of B(24, 12), 2704156, over 2^23.
        signsAre(13, 11, 0, 3518265, 4194304);
    }

    private static void wrong() {
        Face x = match(2, 1, 0);
        Check.index("one 3", () -> x.signs(3, 0, 0));
        Check.index("one -1", () -> x.signs(-1, 0, 0));
        Check.index("other 3", () -> x.signs(0, 3, 0));
        Check.index("other -1", () -> x.signs(0, -1, 0));
        Check.index("other 3, what 4", () -> x.signs(0, 3, 4));
        Check.argument("what 4", () -> x.signs(0, 2, 4));
        Check.argument("what -1", () -> x.signs(0, 2, -1));
        Check.is("none in common", x.signs(0, 1, 2), 1);
    }
}
