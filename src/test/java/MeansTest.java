/** Promises 8 to 11: least, sum, mean, rank. */
final class MeansTest {
    public static void main(String[] args) {
        least();
        sum();
        mean();
        rank();
        rankOfEqualMeans();
        Check.end();
    }

    private static void least() {
        Face x = Check.tables(4, 2);
        Check.is("no points", x.least(0, 1000), CoderTables.NONE);
        Check.points(x, 0, 0, 50, 10, 90, 2);
        Check.points(x, 1, 0, 40, 20, 60, 5);
        Check.points(x, 2, 0, 60, 5, 50, 10);
        Check.points(x, 3, 0, 1, 0);
        x.fails(3, 0);
        Check.is("error 1", x.least(0, 1), CoderTables.NONE);
        Check.is("error 2", x.least(0, 2), 0);
        Check.is("error 4", x.least(0, 4), 0);
        Check.is("error 5, equal bytes", x.least(0, 5), 1);
        Check.is("error 10, equal bytes", x.least(0, 10), 0);
        Check.is("error 19", x.least(0, 19), 0);
        Check.is("error 20", x.least(0, 20), 1);
        Check.is("error 1000000000", x.least(0, 1000000000), 1);
        Check.is("greatest error", x.least(0, Integer.MAX_VALUE), 1);
        Check.is("error 0", x.least(0, 0), CoderTables.NONE);
        x.point(2, 0, 100, 0);
        Check.is("error 0 now", x.least(0, 0), 2);
        Check.is("another picture", x.least(1, 100), CoderTables.NONE);
        Check.argument("error -1", () -> x.least(0, -1));
        Check.argument("least error", () -> x.least(0, Integer.MIN_VALUE));
        Check.index("picture 2", () -> x.least(2, 0));
        Check.index("picture -1", () -> x.least(-1, 0));
        Check.index("picture 2, error -1", () -> x.least(2, -1));
        Face none = Check.tables(0, 1);
        Check.is("no coder", none.least(0, 0), CoderTables.NONE);
    }

    private static void sum() {
        Face x = Check.tables(2, 24);
        Check.is("no counted pair", x.sum(0), CoderTables.NONE);
        Check.points(x, 0, 0, 9, 1, 7, 2, 8, 0);
        Check.is("least of a pair", x.sum(0), 7);
        Check.points(x, 0, 23, 5, 1);
        Check.is("two pairs", x.sum(0), 12);
        x.fails(0, 0);
        Check.is("without the failed one", x.sum(0), 5);
        x.fails(0, 23);
        Check.is("all failed", x.sum(0), CoderTables.NONE);
        for (int picture = 0; picture < 24; picture++) {
            x.point(1, picture, 1000000000, 0);
        }
        Check.is("the greatest", x.sum(1), 24000000000L);
        Check.index("coder 2", () -> x.sum(2));
        Check.index("coder -1", () -> x.sum(-1));
        Face none = Check.tables(1, 0);
        Check.is("no picture", none.sum(0), CoderTables.NONE);
    }

    private static void mean() {
        Face x = Check.tables(2, 24);
        Check.state("no counted pair", () -> x.mean(0, true));
        Check.state("no counted pair", () -> x.mean(0, false));
        Check.index("coder 2", () -> x.mean(2, true));
        Check.index("coder -1", () -> x.mean(-1, false));
        Check.points(x, 0, 0, 4, 0);
        Check.points(x, 0, 1, 5, 0);
        Check.points(x, 0, 2, 9, 0);
        Check.is("18 / 3", x.mean(0, true), 6);
        Check.is("18 / 3", x.mean(0, false), 1);
        Check.points(x, 0, 3, 8, 0);
        Check.is("26 / 4", x.mean(0, true), 13);
        Check.is("26 / 4", x.mean(0, false), 2);
        Check.points(x, 0, 4, 1, 0);
        Check.is("27 / 5", x.mean(0, true), 27);
        Check.is("27 / 5", x.mean(0, false), 5);
        x.fails(0, 4);
        Check.is("26 / 4 again", x.mean(0, true), 13);
        for (int picture = 0; picture < 24; picture++) {
            x.point(1, picture, picture == 0 ? 999999999 : 1000000000, 0);
        }
        Check.is("the greatest in lowest terms", x.mean(1, true), 23999999999L);
        Check.is("the greatest in lowest terms", x.mean(1, false), 24);
    }

    private static void rank() {
        Face x = Check.tables(3, 3);
        Check.state("no counted pair", () -> x.rank(0));
        Check.index("coder 3", () -> x.rank(3));
        Check.index("coder -1", () -> x.rank(-1));
        Check.points(x, 1, 0, 100, 0);
        Check.is("alone", x.rank(1), 2);
        Check.state("still none", () -> x.rank(0));
        Check.points(x, 0, 0, 90, 0);
        Check.points(x, 0, 1, 90, 0);
        Check.is("by means, not by sums", x.rank(0), 2);
        Check.is("second", x.rank(1), 4);
        Check.points(x, 2, 2, 95, 0);
        Check.is("second", x.rank(2), 4);
        Check.is("third", x.rank(1), 6);
        x.fails(0, 0);
        x.fails(0, 1);
        Check.state("failed", () -> x.rank(0));
        Check.is("first", x.rank(2), 2);
    }

    private static void rankOfEqualMeans() {
        Face x = Check.tables(8, 3);
        for (int coder = 0; coder < 8; coder++) {
            x.point(coder, 0, 6, 0);
        }
        Check.is("all the same", x.rank(7), 9);
        Check.points(x, 0, 1, 5, 0);
        Check.points(x, 0, 2, 7, 0);
        Check.is("the same by 18 / 3", x.rank(0), 9);
        Check.points(x, 1, 1, 7, 0);
        Check.is("13 / 2 is the greatest", x.rank(1), 2 * 7 + 1 + 1);
        Check.is("seven the same", x.rank(0), 8);
        Face near = Check.tables(2, 24);
        for (int picture = 0; picture < 24; picture++) {
            near.point(0, picture, picture == 5 ? 999999999 : 1000000000, 0);
        }
        for (int picture = 0; picture < 23; picture++) {
            near.point(1, picture, picture == 5 ? 999999999 : 1000000000, 0);
        }
        Check.is("1 / 23 less is lesser", near.rank(1), 2);
        Check.is("than 1 / 24 less", near.rank(0), 4);
    }
}
