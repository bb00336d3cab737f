/** Promises 1 to 7, 20 and 21: coders, pictures, points, failures, counts, clear. */
final class TablesTest {
    public static void main(String[] args) {
        newObject();
        codersAndPictures();
        points();
        failures();
        failing();
        told();
        clear();
        Check.end();
    }

    private static void newObject() {
        Face x = new Table();
        for (int what = 0; what < 4; what++) {
            Check.is("new: told " + what, x.told(what), 0);
        }
        Check.is("new: failed", x.failed(), 0);
        Check.same("new: kept text", Check.kept(x), "");
        Check.is("new: text", x.text(), 0);
        Check.is("new: fill", x.fill(1), 0);
        Check.index("new: no coder", () -> x.sum(0));
        Check.index("new: no picture", () -> x.least(0, 0));
    }

    private static void codersAndPictures() {
        Face x = new Table();
        for (int k = 0; k < 8; k++) {
            Check.is("coder", x.coder(), k);
            Check.is("told coders", x.told(0), k + 1);
        }
        Check.unsupported("coder 8", x::coder);
        Check.is("coders after it", x.told(0), 8);
        Check.is("pictures beside", x.told(1), 0);
        for (int k = 0; k < 24; k++) {
            Check.is("picture", x.picture(), k);
            Check.is("told pictures", x.told(1), k + 1);
        }
        Check.unsupported("picture 24", x::picture);
        Check.is("pictures after it", x.told(1), 24);
        Check.is("coders beside", x.told(0), 8);
        Check.is("last pair", x.point(7, 23, 5, 5), 1);
        Check.is("last pair's hull", x.hull(7, 23), 1);
        Face y = Check.tables(1, 1);
        y.point(0, 0, 4, 4);
        Check.is("a later coder", y.coder(), 1);
        Check.is("a later picture", y.picture(), 1);
        Check.is("keep the points", y.sum(0), 4);
        Check.is("are empty", y.sum(1), -1);
    }

    private static void points() {
        Face x = Check.tables(2, 2);
        Check.index("coder -1", () -> x.point(-1, 0, 1, 1));
        Check.index("coder 2", () -> x.point(2, 0, 1, 1));
        Check.index("picture -1", () -> x.point(0, -1, 1, 1));
        Check.index("picture 2", () -> x.point(0, 2, 1, 1));
        Check.argument("bytes 0", () -> x.point(0, 0, 0, 1));
        Check.argument("bytes below", () -> x.point(0, 0, Integer.MIN_VALUE, 1));
        Check.argument("bytes above", () -> x.point(0, 0, 1000000001, 1));
        Check.argument("error -1", () -> x.point(0, 0, 1, -1));
        Check.argument("error above", () -> x.point(0, 0, 1, 1000000001));
        Check.is("none came", x.told(2), 0);
        Check.is("least", x.point(0, 0, 1, 0), 1);
        Check.is("greatest", x.point(0, 0, 1000000000, 1000000000), 2);
        Check.is("the same again", x.point(0, 0, 1, 0), 3);
        Check.is("another pair", x.point(1, 0, 1, 0), 1);
        for (int k = 4; k <= 6; k++) {
            Check.is("point", x.point(0, 0, k, k), k);
        }
        Check.unsupported("a seventh", () -> x.point(0, 0, 7, 7));
        Check.argument("a seventh that is wrong", () -> x.point(0, 0, 0, 7));
        Check.index("a wrong pair and amount", () -> x.point(2, 0, 0, 7));
        Check.is("points", x.told(2), 7);
        x.fails(0, 0);
        Check.state("a failed pair", () -> x.point(0, 0, 1, 1));
        Check.argument("a failed pair, wrong error", () -> x.point(0, 0, 1, -1));
        Check.is("the pair beside", x.point(0, 1, 1, 1), 1);
    }

    private static void failures() {
        Face x = Check.tables(2, 2);
        Check.index("coder 2", () -> x.fails(2, 0));
        Check.index("coder -1", () -> x.fails(-1, 0));
        Check.index("picture 2", () -> x.fails(0, 2));
        Check.index("picture -1", () -> x.fails(0, -1));
        Check.is("none failed", x.failed(), 0);
        Check.points(x, 1, 0, 1, 1, 2, 2, 3, 3, 4, 4, 5, 5, 6, 6);
        Check.points(x, 0, 0, 9, 9);
        Check.is("empty pair", x.fails(0, 1), 0);
        Check.is("six points", x.fails(1, 0), 6);
        Check.is("two failed", x.failed(), 2);
        Check.state("again", () -> x.fails(1, 0));
        Check.state("again, empty", () -> x.fails(0, 1));
        Check.is("still two", x.failed(), 2);
        Check.is("points left", x.told(2), 1);
        Check.is("counted left", x.told(3), 1);
        Check.is("not best any more", x.least(0, 1000), 0);
        Check.is("no hull", x.hull(1, 0), 0);
        Check.is("no sum", x.sum(1), -1);
    }

    private static void failing() {
        Face x = Check.tables(8, 24);
        int[] order = {7, 23, 0, 0, 3, 22, 0, 23, 7, 0};
        for (int k = 0; k < order.length; k += 2) {
            x.fails(order[k], order[k + 1]);
        }
        for (int k = 0; k < order.length; k++) {
            Check.is("failing", x.failing(k / 2, k % 2), order[k]);
        }
        Check.index("place -1", () -> x.failing(-1, 0));
        Check.index("place 5", () -> x.failing(5, 0));
        Check.index("place 5, what 2", () -> x.failing(5, 2));
        Check.argument("what 2", () -> x.failing(4, 2));
        Check.argument("what -1", () -> x.failing(0, -1));
        Face all = Check.tables(8, 24);
        for (int pair = 191; pair >= 0; pair--) {
            all.fails(pair / 24, pair % 24);
        }
        Check.is("all failed", all.failed(), 192);
        Check.is("last coder", all.failing(191, 0), 0);
        Check.is("last picture", all.failing(190, 1), 1);
        Check.index("place 192", () -> all.failing(192, 0));
    }

    private static void told() {
        Face x = Check.tables(3, 2);
        Check.points(x, 0, 0, 1, 1, 2, 2);
        Check.points(x, 2, 1, 1, 1, 2, 2, 3, 3);
        x.fails(1, 1);
        Check.is("coders", x.told(0), 3);
        Check.is("pictures", x.told(1), 2);
        Check.is("points", x.told(2), 5);
        Check.is("counted", x.told(3), 2);
        Check.is("what 4", x.told(4), CoderTables.NONE);
        Check.is("what -1", x.told(-1), CoderTables.NONE);
        Check.is("what greatest", x.told(Integer.MAX_VALUE), CoderTables.NONE);
        Check.is("what least", x.told(Integer.MIN_VALUE), CoderTables.NONE);
    }

    private static void clear() {
        Face x = Check.tables(8, 24);
        x.fill(5);
        x.text();
        x.clear();
        for (int what = 0; what < 4; what++) {
            Check.is("cleared: told " + what, x.told(what), 0);
        }
        Check.is("cleared: failed", x.failed(), 0);
        Check.same("cleared: text", Check.kept(x), "");
        Check.index("cleared: coder", () -> x.sum(0));
        Check.index("cleared: failing", () -> x.failing(0, 0));
        for (int k = 0; k < 8; k++) {
            Check.is("coder again", x.coder(), k);
        }
        for (int k = 0; k < 24; k++) {
            Check.is("picture again", x.picture(), k);
        }
        Check.is("no points come back", x.told(2), 0);
        Check.is("no counted come back", x.told(3), 0);
        for (int pair = 0; pair < 192; pair++) {
            Check.is("no failure comes back", x.point(pair / 24, pair % 24, 1000000, 3), 1);
        }
        Check.is("no bytes come back", x.sum(7), 24000000);
    }
}
