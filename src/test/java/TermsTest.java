/** The boundary cases that the document's section "Terms" names, sentence by sentence. */
final class TermsTest {
    private static final int GREATEST = 1000000000;

    public static void main(String[] args) {
        numbersOfCoders();
        numbersOfPictures();
        sixPoints();
        sixPointsInEachPair();
        rangeOfBytes();
        rangeOfErrors();
        countedPairs();
        bytesOfAPair();
        greatestSums();
        meansAsFractions();
        greatestMeans();
        ranksOfThoseCounted();
        ranksOfEqualMeans();
        ranksOfNearMeans();
        bestPoints();
        alikePoints();
        risingRow();
        steepestOfAll();
        farthestOfEqualOnes();
        greatestSlopes();
        signsOfEqualBytes();
        oddsOfAllMatches();
        oddsThatWouldBeMore();
        Check.end();
    }

    private static void numbersOfCoders() {
        Check.says("CODERS have numbers 0 .. 7 .. each as they came.");
        Face x = new Table();
        for (int n = 0; n < 8; n++) {
            int next = n;
            Check.index("coder " + n + " before it came", () -> x.sum(next));
            Check.is("coder", x.coder(), n);
            Check.is("coder " + n + " when it came", x.sum(n), -1);
            Check.is("coder 0", x.sum(0), -1);
            Check.index("coder -1", () -> x.sum(-1));
        }
        Check.unsupported("a ninth coder", x::coder);
        Check.unsupported("a ninth coder again", x::coder);
        Check.index("coder 8", () -> x.sum(8));
        Check.is("coder 7", x.sum(7), -1);
        Check.is("coders", x.told(0), 8);
    }

    private static void numbersOfPictures() {
        Check.says("PICTURES 0 .. 23, each as they came.");
        Face x = Check.tables(1, 0);
        for (int n = 0; n < 24; n++) {
            int next = n;
            Check.index("picture " + n + " before it came", () -> x.hull(0, next));
            Check.index("picture " + n + " before it came", () -> x.least(next, 0));
            Check.is("picture", x.picture(), n);
            Check.is("picture " + n + " when it came", x.hull(0, n), 0);
            Check.is("picture " + n + " when it came", x.least(n, 0), -1);
            Check.index("picture -1", () -> x.hull(0, -1));
        }
        Check.unsupported("a 25th picture", x::picture);
        Check.unsupported("a 25th picture again", x::picture);
        Check.index("picture 24", () -> x.hull(0, 24));
        Check.is("picture 23", x.hull(0, 23), 0);
        Check.is("pictures", x.told(1), 24);
    }

    private static void sixPoints() {
        Check.says("For a coder and a picture there are POINTS, six at most");
        Face x = Check.tables(1, 1);
        for (int n = 1; n <= 6; n++) {
            Check.is("point " + n, x.point(0, 0, 10 - n, n), n);
            Check.is("points", x.told(2), n);
        }
        Check.unsupported("a seventh", () -> x.point(0, 0, 1, 7));
        Check.unsupported("a seventh again", () -> x.point(0, 0, 1, 7));
        Check.is("points after it", x.told(2), 6);
        Check.is("bytes after it", x.sum(0), 4);
        Check.is("they go", x.fails(0, 0), 6);
    }

    /** All pairs of the first and the last coder are full, and each keeps its own points. */
    private static void sixPointsInEachPair() {
        Check.says("For a coder and a picture there are POINTS, six at most");
        Face x = Check.tables(8, 24);
        for (int picture = 0; picture < 24; picture++) {
            for (int k = 0; k < 6; k++) {
                Check.is("first coder", x.point(0, picture, 100 * picture + 6 - k, k), k + 1);
                Check.is("last coder", x.point(7, picture, 5000 + 100 * picture + k, 9 - k), k + 1);
            }
        }
        Check.is("points", x.told(2), 288);
        Check.is("counted", x.told(3), 48);
        Check.is("sum of the first", x.sum(0), 27624);
        Check.is("sum of the last", x.sum(7), 147600);
        for (int k : new int[] {0, 1, 22, 23}) {
            Check.unsupported("first coder, seventh", () -> x.point(0, k, 1, 0));
            Check.unsupported("last coder, seventh", () -> x.point(7, k, 1, 0));
            Check.same("first coder's hull", Check.hullOf(x, 0, k),
                100 * k + 1 + ",5 1/1 " + (100 * k + 6) + ",0 ");
            Check.same("last coder's hull", Check.hullOf(x, 7, k),
                5000 + 100 * k + ",9 1/1 " + (5005 + 100 * k) + ",4 ");
        }
        Check.is("a coder between", x.sum(3), -1);
    }

    private static void rangeOfBytes() {
        Check.says("bytes, 1 .. 1000000000");
        Face x = Check.tables(2, 2);
        for (int wrong : new int[] {Integer.MIN_VALUE, -1, 0, 1000000001, Integer.MAX_VALUE}) {
            Check.argument("bytes " + wrong, () -> x.point(0, 0, wrong, 5));
        }
        Check.is("none of them came", x.told(2), 0);
        Check.is("bytes 1", x.point(0, 0, 1, 5), 1);
        Check.is("bytes 1", x.sum(0), 1);
        Check.is("bytes 1000000000", x.point(1, 1, GREATEST, 5), 1);
        Check.is("bytes 1000000000", x.sum(1), GREATEST);
    }

    private static void rangeOfErrors() {
        Check.says("and an error, 0 .. 1000000000");
        Face x = Check.tables(2, 2);
        for (int wrong : new int[] {Integer.MIN_VALUE, -1, 1000000001, Integer.MAX_VALUE}) {
            Check.argument("error " + wrong, () -> x.point(0, 0, 5, wrong));
        }
        Check.is("none of them came", x.told(2), 0);
        Check.is("error 0", x.point(0, 0, 5, 0), 1);
        Check.is("error 0", x.onHull(0, 0, 0, 1), 0);
        Check.is("error 1000000000", x.point(1, 1, 5, GREATEST), 1);
        Check.is("error 1000000000", x.onHull(1, 1, 0, 1), GREATEST);
        Check.is("least of it", x.least(1, GREATEST), 1);
        Check.is("least below it", x.least(1, GREATEST - 1), -1);
    }

    private static void countedPairs() {
        Check.says("A pair is COUNTED if it has points, and has not failed.");
        Face x = Check.tables(2, 2);
        Check.is("empty pairs", x.told(3), 0);
        x.point(1, 0, 5, 5);
        Check.is("with a point", x.told(3), 1);
        Check.points(x, 1, 0, 6, 4, 7, 3, 8, 2, 9, 1, 10, 0);
        Check.is("with six points", x.told(3), 1);
        x.point(1, 1, 5, 5);
        Check.is("two pairs", x.told(3), 2);
        x.fails(0, 0);
        Check.is("another one has failed", x.told(3), 2);
        x.fails(1, 0);
        Check.is("with six points, failed", x.told(3), 1);
        x.fails(1, 1);
        Check.is("all failed", x.told(3), 0);
    }

    /** The least of six points stands at each place once; its error is the greatest of them. */
    private static void bytesOfAPair() {
        Check.says("BYTES of a counted pair: the least of its points'.");
        for (int place = 0; place < 6; place++) {
            Face x = Check.tables(1, 1);
            for (int k = 0; k < 6; k++) {
                x.point(0, 0, k == place ? 7 : 8 + k, k == place ? GREATEST : 6 - k);
            }
            Check.is("least at place " + place, x.sum(0), 7);
        }
    }

    private static void greatestSums() {
        Check.says("A SUM of a coder is that of the bytes of its counted pairs");
        Face x = Check.tables(8, 24);
        Check.everyPicture(x, 7, 24, GREATEST);
        Check.is("24 of the greatest", x.sum(7), 24000000000L);
        Check.points(x, 0, 0, GREATEST, 0);
        Check.points(x, 0, 11, GREATEST, 0);
        Check.points(x, 0, 23, 147483647, 0);
        Check.is("the greatest int", x.sum(0), 2147483647L);
        Check.points(x, 0, 22, 1, 0);
        Check.is("and 1", x.sum(0), 2147483648L);
        Check.everyPicture(x, 1, 24, 1);
        Check.is("24 of the least", x.sum(1), 24);
        for (int picture = 0; picture < 23; picture++) {
            x.fails(7, picture);
        }
        Check.is("one that has not failed", x.sum(7), GREATEST);
    }

    private static void meanIs(long numerator, long denominator, int... bytes) {
        Face x = Check.tables(1, 24);
        for (int picture = 0; picture < bytes.length; picture++) {
            x.point(0, 23 - picture, bytes[picture], 0);
        }
        Check.is("numerator", x.mean(0, true), numerator);
        Check.is("denominator", x.mean(0, false), denominator);
    }

    /** 0 is never a mean, a slope or the odds, so 0 / 1 is never asked for. */
    private static void meansAsFractions() {
        Check.says("a numerator and a denominator above 0 without a common divisor above 1");
        meanIs(1, 1, 1);
        meanIs(1, 1, 1, 1);
        meanIs(3, 2, 1, 2);
        meanIs(2, 1, 1, 3);
        meanIs(4, 3, 1, 1, 2);
        meanIs(5, 2, 1, 2, 3, 4);
        meanIs(1, 1, 1, 1, 1, 1, 1, 1, 1, 1, 1, 1, 1, 1, 1, 1, 1, 1, 1, 1, 1, 1, 1, 1, 1, 1);
        meanIs(25, 24, 2, 1, 1, 1, 1, 1, 1, 1, 1, 1, 1, 1, 1, 1, 1, 1, 1, 1, 1, 1, 1, 1, 1, 1);
        meanIs(13, 12, 3, 1, 1, 1, 1, 1, 1, 1, 1, 1, 1, 1, 1, 1, 1, 1, 1, 1, 1, 1, 1, 1, 1, 1);
        meanIs(4, 3, 9, 1, 1, 1, 1, 1, 1, 1, 1, 1, 1, 1, 1, 1, 1, 1, 1, 1, 1, 1, 1, 1, 1, 1);
    }

    private static void greatestMeans() {
        Check.says("its MEAN the sum divided by how many these are");
        meanIs(GREATEST, 1, GREATEST);
        meanIs(GREATEST, 1, GREATEST, GREATEST, GREATEST);
        meanIs(1999999999, 2, GREATEST, GREATEST - 1);
        Face x = Check.tables(2, 24);
        Check.everyPicture(x, 0, 24, GREATEST);
        Check.is("numerator", x.mean(0, true), GREATEST);
        Check.is("denominator", x.mean(0, false), 1);
        Check.everyPicture(x, 1, 23, GREATEST);
        x.point(1, 23, GREATEST - 1, 0);
        Check.is("numerator", x.mean(1, true), 23999999999L);
        Check.is("denominator", x.mean(1, false), 24);
        x.fails(1, 0);
        Check.is("numerator without a failed one", x.mean(1, true), 22999999999L);
        Check.is("denominator without a failed one", x.mean(1, false), 23);
    }

    private static void ranksOfThoseCounted() {
        Check.says("A coder's RANK, of those that have a counted pair, is by their means, the least first");
        Face x = Check.tables(8, 24);
        x.point(7, 23, 50, 0);
        Check.is("the only one", x.rank(7), 2);
        x.fails(0, 0);
        Check.is("one that failed is not ranked", x.rank(7), 2);
        x.point(0, 1, 49, 0);
        Check.is("behind another", x.rank(7), 4);
        Check.is("before another", x.rank(0), 2);
        x.fails(0, 1);
        Check.is("the only one again", x.rank(7), 2);
        for (int coder = 0; coder < 7; coder++) {
            x.point(coder, 5, 60 + coder, 0);
        }
        for (int coder = 0; coder < 7; coder++) {
            Check.is("rank", x.rank(coder), 2 * coder + 4);
        }
        Check.is("the first of eight", x.rank(7), 2);
        x.point(7, 5, GREATEST, 0);
        Check.is("the last of eight", x.rank(7), 16);
    }

    private static void ranksOfEqualMeans() {
        Check.says("twice how many have a lesser mean, and how many have the same one (itself, too), and 1");
        Face x = Check.tables(8, 24);
        for (int n = 1; n <= 8; n++) {
            x.point(n - 1, 0, GREATEST, 0);
            Check.is("the same of " + n, x.rank(0), n + 1);
            Check.is("the same of " + n, x.rank(n - 1), n + 1);
        }
        for (int picture = 1; picture < 24; picture++) {
            x.point(4, picture, GREATEST, 0);
        }
        Check.is("the same by 24 pictures", x.rank(4), 9);
        x.point(2, 0, GREATEST - 1, 0);
        Check.is("one is less", x.rank(2), 2);
        Check.is("seven are the same", x.rank(4), 10);
        Check.is("seven are the same", x.rank(0), 10);
        x.point(3, 0, GREATEST - 1, 0);
        Check.is("two are less", x.rank(3), 3);
        Check.is("six are the same", x.rank(7), 11);
        Face y = Check.tables(2, 24);
        Check.points(y, 0, 0, 1, 0);
        Check.points(y, 0, 1, 2, 0);
        Check.points(y, 1, 2, 1, 0);
        Check.points(y, 1, 3, 1, 0);
        Check.points(y, 1, 4, 2, 0);
        Check.points(y, 1, 5, 2, 0);
        Check.is("3 / 2", y.rank(0), 3);
        Check.is("6 / 4", y.rank(1), 3);
    }

    /** Means that differ by far less than a byte, among the greatest. */
    private static void ranksOfNearMeans() {
        Check.says("is by their means, the least first");
        Face x = Check.tables(3, 24);
        Check.everyPicture(x, 0, 23, GREATEST);
        x.point(0, 23, GREATEST - 1, 0);
        Check.everyPicture(x, 1, 22, GREATEST);
        x.point(1, 22, GREATEST - 1, 0);
        Check.everyPicture(x, 2, 24, GREATEST);
        Check.is("1 / 24 less", x.rank(0), 4);
        Check.is("1 / 23 less", x.rank(1), 2);
        Check.is("the greatest", x.rank(2), 6);
        Face y = Check.tables(2, 2);
        Check.points(y, 0, 0, 1, 0);
        Check.points(y, 0, 1, 2, 0);
        Check.points(y, 1, 0, 1, 0);
        Check.is("1 is less than 3 / 2", y.rank(1), 2);
        Check.is("3 / 2 is not", y.rank(0), 4);
        y.fails(1, 0);
        y.point(1, 1, 2, 0);
        Check.is("2 is more than 3 / 2", y.rank(1), 4);
        Check.is("3 / 2 is less", y.rank(0), 2);
    }

    /** In each order of coming, so that no place among the points is better than another. */
    private static void hullIs(String due, int... amounts) {
        int size = amounts.length / 2;
        for (int turn = 0; turn < size; turn++) {
            Face x = Check.tables(8, 24);
            Face back = Check.tables(8, 24);
            for (int k = 0; k < size; k++) {
                int at = (k + turn) % size;
                x.point(7, 23, amounts[2 * at], amounts[2 * at + 1]);
                back.point(0, 0, amounts[2 * (size - 1 - at)], amounts[2 * (size - 1 - at) + 1]);
            }
            Check.same("hull, turned by " + turn, Check.hullOf(x, 7, 23), due);
            Check.same("hull from behind, turned by " + turn, Check.hullOf(back, 0, 0), due);
        }
    }

    private static void bestPoints() {
        Check.says("no other one has at most as many bytes and at most as great an error");
        hullIs("5,5 ", 5, 5, 5, 6);
        hullIs("5,5 ", 5, 5, 6, 5);
        hullIs("5,5 ", 5, 5, 6, 6);
        hullIs("4,6 1/1 5,5 ", 5, 5, 4, 6);
        hullIs("5,5 1/1 6,4 ", 5, 5, 6, 4);
        hullIs("1,0 ", 1, 0, 2, 0, 1, 1, GREATEST, 0, 1, GREATEST, GREATEST, GREATEST);
        hullIs("3,9 3/1 5,3 ", 3, 9, 3, 10, 5, 3, 5, 4, 6, 3, 4, 9);
    }

    private static void alikePoints() {
        Check.says("but just the same (of points that are alike one)");
        hullIs("5,5 ", 5, 5, 5, 5);
        hullIs("5,5 ", 5, 5, 5, 5, 5, 5, 5, 5, 5, 5, 5, 5);
        hullIs("1,0 ", 1, 0, 1, 0);
        hullIs("1000000000,1000000000 ", GREATEST, GREATEST, GREATEST, GREATEST);
        hullIs("4,9 4/1 5,5 1/1 6,4 ", 5, 5, 4, 9, 5, 5, 6, 4, 4, 9, 6, 4);
    }

    private static void risingRow() {
        Check.says("by bytes, rising");
        hullIs("1,100 50/1 2,50 25/1 3,25 12/1 4,13 6/1 5,7 3/1 6,4 ",
            6, 4, 5, 7, 4, 13, 3, 25, 2, 50, 1, 100);
        hullIs("1,100 50/1 2,50 25/1 3,25 12/1 4,13 6/1 5,7 3/1 6,4 ",
            4, 13, 1, 100, 6, 4, 2, 50, 5, 7, 3, 25);
    }

    private static void steepestOfAll() {
        Check.says("from the last one taken that to which the error falls most for a byte");
        hullIs("1,100 33/1 4,1 ", 1, 100, 2, 99, 3, 98, 4, 1);
        hullIs("1,100 99/2 3,1 1/1 4,0 ", 1, 100, 2, 99, 3, 1, 4, 0);
        hullIs("1,100 1/1 2,99 ", 1, 100, 2, 99);
        hullIs("1,9 7/1 2,2 2/9 11,0 ", 1, 9, 2, 2, 10, 1, 11, 0);
    }

    private static void farthestOfEqualOnes() {
        Check.says("(of equal ones the farthest)");
        hullIs("1,6 1/1 3,4 ", 1, 6, 2, 5, 3, 4);
        hullIs("1,6 1/1 6,1 ", 1, 6, 2, 5, 3, 4, 4, 3, 5, 2, 6, 1);
        hullIs("1,9 3/2 5,3 1/2 9,1 ", 1, 9, 3, 6, 5, 3, 7, 2, 9, 1);
        hullIs("1,999999999 1/1 1000000000,0 ",
            1, 999999999, 333333334, 666666666, 666666667, 333333333, GREATEST, 0);
    }

    private static void greatestSlopes() {
        Check.says("SLOPE k is the fraction of how much the error falls .. by how many bytes that is");
        hullIs("1,1000000000 1000000000/1 2,0 ", 1, GREATEST, 2, 0);
        hullIs("1,1 1/999999999 1000000000,0 ", 1, 1, GREATEST, 0);
        hullIs("1,1000000000 1000000000/999999999 1000000000,0 ", 1, GREATEST, GREATEST, 0);
        hullIs("1,1000000000 1/999999999 1000000000,999999999 ", 1, GREATEST, GREATEST, GREATEST - 1);
        hullIs("999999999,1000000000 1000000000/1 1000000000,0 ", GREATEST - 1, GREATEST, GREATEST, 0);
        hullIs("1,999999999 1/1 1000000000,0 ", 1, 999999999, GREATEST, 0);
        // The two differ by 1 in 10^18.
        hullIs("1,1000000000 999999999/999999998 999999999,1 1/1 1000000000,0 ",
            1, GREATEST, 999999999, 1, GREATEST, 0);
        hullIs("1,1000000000 999999998/999999999 1000000000,2 ",
            1, GREATEST, 999999999, 3, GREATEST, 2);
    }

    private static void signsOfEqualBytes() {
        Check.says("w at which the first one has less bytes, l at which it has more");
        Face x = Check.tables(2, 24);
        Check.points(x, 0, 0, GREATEST, 0);
        Check.points(x, 1, 0, GREATEST, GREATEST);
        Check.points(x, 0, 1, 1, GREATEST);
        Check.points(x, 1, 1, GREATEST, 0);
        Check.points(x, 0, 2, 2, 0);
        Check.points(x, 1, 2, 1, 0);
        Check.points(x, 0, 22, GREATEST - 1, 0);
        Check.points(x, 1, 22, GREATEST, 0);
        Check.points(x, 0, 23, 1, 0);
        Check.is("w", x.signs(0, 1, 0), 2);
        Check.is("l", x.signs(0, 1, 1), 1);
        Check.is("w, the other way round", x.signs(1, 0, 0), 1);
        Check.is("l, the other way round", x.signs(1, 0, 1), 2);
    }

    private static Face match(int wins, int losses) {
        Face x = Check.tables(2, 24);
        for (int picture = 0; picture < wins + losses; picture++) {
            x.point(0, picture, 10, 0);
            x.point(1, picture, picture < wins ? 11 : 9, 0);
        }
        return x;
    }

    /** B(n, 0) to B(n, n), each row from the one before. */
    private static long[] waysOf(int n) {
        long[] ways = new long[n + 1];
        ways[0] = 1;
        for (int row = 1; row <= n; row++) {
            for (int i = row; i > 0; i--) {
                ways[i] += ways[i - 1];
            }
        }
        return ways;
    }

    private static void oddsOfAllMatches() {
        Check.says("the odds are the fraction 2 (B(n, 0) + .. + B(n, m)) / 2^n .. or 1, if that is more");
        for (int wins = 0; wins <= 24; wins++) {
            for (int losses = 0; wins + losses <= 24; losses++) {
                long numerator = 0;
                long denominator = 1L << (wins + losses);
                for (int i = 0; i <= wins && i <= losses; i++) {
                    numerator += 2 * waysOf(wins + losses)[i];
                }
                if (numerator > denominator) {
                    numerator = denominator;
                }
                while (numerator % 2 == 0 && denominator % 2 == 0) {
                    numerator /= 2;
                    denominator /= 2;
                }
                Face x = match(wins, losses);
                String name = wins + " : " + losses;
                Check.is(name + " w", x.signs(0, 1, 0), wins);
                Check.is(name + " l", x.signs(0, 1, 1), losses);
                Check.is(name + " numerator", x.signs(0, 1, 2), numerator);
                Check.is(name + " denominator", x.signs(0, 1, 3), denominator);
            }
        }
    }

    private static void oddsAre(int wins, int losses, long numerator, long denominator) {
        Face x = match(wins, losses);
        Check.is(wins + " : " + losses + " numerator", x.signs(0, 1, 2), numerator);
        Check.is(wins + " : " + losses + " denominator", x.signs(0, 1, 3), denominator);
    }

    private static void oddsThatWouldBeMore() {
        Check.says("or 1, if that is more");
        oddsAre(0, 0, 1, 1);
        oddsAre(1, 1, 1, 1);
        oddsAre(12, 12, 1, 1);
        oddsAre(0, 1, 1, 1);
        oddsAre(11, 12, 1, 1);
        oddsAre(0, 2, 1, 2);
        oddsAre(11, 13, 3518265, 4194304);
        oddsAre(24, 0, 1, 8388608);
        oddsAre(0, 24, 1, 8388608);
    }
}
