/** Promises 12 to 14: hull, onHull, slope. */
final class HullTest {
    public static void main(String[] args) {
        notCounted();
        onePoint();
        best();
        equalSlopes();
        sixOnTheHull();
        farApart();
        wrong();
        Check.end();
    }

    private static void hullIs(String due, int... amounts) {
        Face x = Check.tables(2, 2);
        Check.points(x, 1, 1, amounts);
        Check.same("hull", Check.hullOf(x, 1, 1), due);
        Face back = Check.tables(2, 2);
        for (int k = amounts.length - 2; k >= 0; k -= 2) {
            back.point(1, 1, amounts[k], amounts[k + 1]);
        }
        Check.same("hull, points from behind", Check.hullOf(back, 1, 1), due);
        Check.is("the pair before", x.hull(1, 0), 0);
    }

    private static void notCounted() {
        Face x = Check.tables(1, 1);
        Check.is("empty", x.hull(0, 0), 0);
        Check.index("empty", () -> x.onHull(0, 0, 0, 0));
        Check.index("empty", () -> x.slope(0, 0, 0, true));
        x.point(0, 0, 1, 1);
        x.point(0, 0, 2, 0);
        Check.is("two", x.hull(0, 0), 2);
        x.fails(0, 0);
        Check.is("failed", x.hull(0, 0), 0);
        Check.index("failed", () -> x.onHull(0, 0, 0, 0));
        Check.index("failed", () -> x.slope(0, 0, 0, false));
    }

    private static void onePoint() {
        hullIs("5,7 ", 5, 7);
        hullIs("5,7 ", 5, 7, 5, 7, 5, 7);
        hullIs("5,7 ", 5, 7, 5, 8);
        hullIs("5,7 ", 5, 7, 6, 7);
        hullIs("5,7 ", 5, 7, 6, 8, 9, 7, 5, 9, 5, 7, 1000000000, 1000000000);
        hullIs("1,0 ", 1, 0, 1000000000, 0, 1, 1000000000);
    }

    private static void best() {
        hullIs("5,7 1/1 6,6 ", 5, 7, 6, 6);
        hullIs("5,7 7/3 8,0 ", 5, 7, 6, 6, 8, 0);
        hullIs("5,9 3/1 6,6 2/1 8,2 1/4 12,1 ", 12, 1, 5, 9, 8, 2, 6, 6, 7, 5, 20, 1);
        hullIs("1,10 1/1 5,6 ", 1, 10, 5, 6, 5, 8, 3, 9, 4, 8, 5, 6);
        hullIs("2,10 4/1 4,2 ", 4, 2, 2, 10, 3, 10, 4, 10, 2, 12, 9, 2);
    }

    private static void equalSlopes() {
        hullIs("1,9 1/1 3,7 ", 1, 9, 2, 8, 3, 7);
        hullIs("1,9 1/1 4,6 1/2 6,5 ", 1, 9, 4, 6, 2, 8, 3, 7, 6, 5);
        hullIs("1,10 2/3 10,4 ", 1, 10, 4, 8, 7, 6, 10, 4);
    }

    private static void sixOnTheHull() {
        hullIs("1,20 6/1 2,14 5/1 3,9 3/1 4,6 2/1 5,4 1/2 7,3 ",
            4, 6, 1, 20, 7, 3, 3, 9, 2, 14, 5, 4);
    }

    private static void farApart() {
        hullIs("1,1000000000 1000000000/999999999 1000000000,0 ", 1, 1000000000, 1000000000, 0);
        hullIs("1,1000000000 500000000/499999999 500000000,500000000 1/1 1000000000,0 ",
            1, 1000000000, 500000000, 500000000, 1000000000, 0);
        hullIs("1,1000000000 1000000000/999999999 1000000000,0 ",
            1, 1000000000, 500000000, 500000001, 1000000000, 0);
    }

    private static void wrong() {
        Face x = Check.tables(2, 2);
        Check.points(x, 0, 0, 1, 9, 2, 5, 3, 4);
        Check.is("three", x.hull(0, 0), 3);
        Check.index("hull, coder 2", () -> x.hull(2, 0));
        Check.index("hull, coder -1", () -> x.hull(-1, 0));
        Check.index("hull, picture 2", () -> x.hull(0, 2));
        Check.index("hull, picture -1", () -> x.hull(0, -1));
        Check.index("onHull, coder", () -> x.onHull(2, 0, 0, 0));
        Check.index("onHull, picture", () -> x.onHull(0, 2, 0, 0));
        Check.index("onHull, k 3", () -> x.onHull(0, 0, 3, 0));
        Check.index("onHull, k -1", () -> x.onHull(0, 0, -1, 0));
        Check.index("onHull, k greatest", () -> x.onHull(0, 0, Integer.MAX_VALUE, 0));
        Check.index("onHull, k 3 and what 2", () -> x.onHull(0, 0, 3, 2));
        Check.argument("onHull, what 2", () -> x.onHull(0, 0, 2, 2));
        Check.argument("onHull, what -1", () -> x.onHull(0, 0, 0, -1));
        Check.index("slope, coder", () -> x.slope(-1, 0, 0, true));
        Check.index("slope, picture", () -> x.slope(0, -1, 0, true));
        Check.index("slope, k 2", () -> x.slope(0, 0, 2, true));
        Check.index("slope, k -1", () -> x.slope(0, 0, -1, false));
        Check.index("slope, k least", () -> x.slope(0, 0, Integer.MIN_VALUE, false));
        Check.is("slope, k 1", x.slope(0, 0, 1, true), 1);
        Face one = Check.tables(1, 1);
        one.point(0, 0, 1, 1);
        Check.index("slope of one point", () -> one.slope(0, 0, 0, true));
    }
}
