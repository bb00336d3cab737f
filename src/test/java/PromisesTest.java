/** The boundary cases that the document's promises name, promise by promise; seeds have SeedsTest. */
final class PromisesTest {
    private static final int NONE = -1;
    private static final int GREATEST = 1000000000;

    public static void main(String[] args) {
        newObject();
        onlyCoders();
        onlyPictures();
        laterCodersAndPictures();
        pointsOfPairs();
        failsWithPoints();
        allPairsFail();
        orderOfFailures();
        leastOfEqualOnes();
        leastWithinTheError();
        leastOfTheGreatest();
        leastOfNone();
        sumOfNone();
        meanOfNone();
        rankOfNone();
        hullOfNone();
        pointsOnTheHull();
        slopesOfTheHull();
        signsOfNone();
        shortestTexts();
        longestText();
        digitsOfTheText();
        rankOfTwoDigits();
        textMadeLast();
        toldOfAnotherWhat();
        toldOfAll();
        clearOfAll();
        clearAgainAndAgain();
        longestRun();
        Check.end();
    }

    private static void newObject() {
        Check.says("Promise 1: No coders and no pictures.");
        Face x = new Table();
        for (int what = 0; what < 4; what++) {
            Check.is("told " + what, x.told(what), 0);
        }
        Check.is("failed", x.failed(), 0);
        Check.index("no text yet", () -> x.charAt(0));
        Check.is("text", x.text(), 0);
        Check.index("no character", () -> x.charAt(0));
        Check.is("fill", x.fill(3), 0);
        x.clear();
        Check.is("the first coder", x.coder(), 0);
        Check.is("the first picture", x.picture(), 0);
        Face other = new Table();
        Check.is("another object", other.told(0), 0);
        Check.is("another object", other.told(1), 0);
    }

    private static void onlyCoders() {
        Check.says("an empty table: coders, but no pictures");
        Face x = Check.tables(8, 0);
        Check.is("sum", x.sum(7), NONE);
        Check.state("mean", () -> x.mean(7, true));
        Check.state("rank", () -> x.rank(7));
        Check.index("hull", () -> x.hull(7, 0));
        Check.index("least", () -> x.least(0, 0));
        Check.index("point", () -> x.point(7, 0, 1, 0));
        Check.index("fails", () -> x.fails(7, 0));
        Check.is("w", x.signs(0, 7, 0), 0);
        Check.is("l", x.signs(0, 7, 1), 0);
        Check.is("odds", x.signs(0, 7, 2), 1);
        Check.is("odds", x.signs(0, 7, 3), 1);
        Check.state("draws", () -> x.draws(0, 7, 1, 1));
        Check.is("fill", x.fill(1), 0);
        Check.is("failed", x.failed(), 0);
        Check.is("points", x.told(2), 0);
        Check.is("counted", x.told(3), 0);
    }

    private static void onlyPictures() {
        Check.says("an empty table: pictures, but no coders");
        Face x = Check.tables(0, 24);
        Check.is("least of the first", x.least(0, 0), NONE);
        Check.is("least of the last", x.least(23, GREATEST), NONE);
        Check.index("sum", () -> x.sum(0));
        Check.index("hull", () -> x.hull(0, 0));
        Check.index("point", () -> x.point(0, 0, 1, 0));
        Check.is("text", x.text(), 0);
        Check.is("fill", x.fill(1), 0);
        Check.is("failed", x.failed(), 0);
        Check.is("counted", x.told(3), 0);
    }

    private static void laterCodersAndPictures() {
        Check.says("Promises 2 and 3: A new coder: its number. A new picture: its number.");
        Face x = Check.tables(1, 1);
        Check.points(x, 0, 0, 7, 3);
        for (int k = 1; k < 24; k++) {
            Check.is("picture", x.picture(), k);
            Check.is("it is empty", x.fails(0, k), 0);
        }
        for (int k = 1; k < 8; k++) {
            Check.is("coder", x.coder(), k);
            Check.is("it has no counted pair", x.sum(k), NONE);
            Check.is("its first pair is empty", x.hull(k, 0), 0);
            Check.is("its last pair is empty", x.hull(k, 23), 0);
        }
        Check.same("the first pair stays", Check.hullOf(x, 0, 0), "7,3 ");
        Check.is("those that failed stay", x.failed(), 23);
        Check.is("sum", x.sum(0), 7);
    }

    private static void pointsOfPairs() {
        Check.says("Promise 4: A point comes to a pair: how many it has.");
        Face x = Check.tables(8, 24);
        int[][] corners = {{0, 0}, {0, 23}, {7, 0}, {7, 23}, {0, 1}, {1, 0}};
        for (int n = 1; n <= 6; n++) {
            for (int[] pair : corners) {
                Check.is("point", x.point(pair[0], pair[1], n, n), n);
            }
        }
        for (int[] pair : corners) {
            Check.unsupported("a seventh", () -> x.point(pair[0], pair[1], 1, 1));
        }
        Check.is("points", x.told(2), 36);
        Check.is("counted", x.told(3), 6);
    }

    private static void failsWithPoints() {
        Check.says("Promise 5: A pair has failed; its points go: how many there were.");
        Face x = Check.tables(1, 7);
        for (int n = 0; n <= 6; n++) {
            for (int k = 0; k < n; k++) {
                x.point(0, n, 10, 10);
            }
        }
        for (int n = 0; n <= 6; n++) {
            int picture = n;
            Check.is("points that go", x.fails(0, n), n);
            Check.is("failed", x.failed(), n + 1);
            Check.is("no hull", x.hull(0, n), 0);
            Check.is("not the least", x.least(n, GREATEST), NONE);
            Check.state("failed already", () -> x.fails(0, picture));
            Check.state("no point comes", () -> x.point(0, picture, 1, 1));
        }
        Check.is("points", x.told(2), 0);
        Check.is("sum", x.sum(0), NONE);
    }

    private static Face allFailed() {
        Face x = Check.tables(8, 24);
        for (int pair = 0; pair < 192; pair++) {
            x.fails(pair % 8, pair / 8);
        }
        return x;
    }

    private static void allPairsFail() {
        Check.says("Promise 6: How many pairs failed.");
        Face x = allFailed();
        Check.is("failed", x.failed(), 192);
        Check.state("once more", () -> x.fails(0, 0));
        Check.state("once more", () -> x.fails(7, 23));
        Check.state("a point", () -> x.point(7, 23, 1, 0));
        Check.is("failed still", x.failed(), 192);
        for (int coder = 0; coder < 8; coder++) {
            int c = coder;
            Check.is("sum", x.sum(c), NONE);
            Check.state("mean", () -> x.mean(c, true));
            Check.state("rank", () -> x.rank(c));
            Check.state("draws", () -> x.draws(c, 7 - c, 1, 1));
            Check.is("w", x.signs(c, 7 - c, 0), 0);
            Check.is("odds", x.signs(c, 7 - c, 3), 1);
        }
        Check.is("least", x.least(23, GREATEST), NONE);
        Check.is("points", x.told(2), 0);
        Check.is("counted", x.told(3), 0);
        Check.is("text", x.text(), 32);
        Check.same("text", Check.kept(x), "0 -\n1 -\n2 -\n3 -\n4 -\n5 -\n6 -\n7 -\n");
    }

    private static void orderOfFailures() {
        Check.says("Promise 7: Of those that failed, in the order in which they did, at place k");
        Face x = allFailed();
        for (int place : new int[] {0, 1, 7, 8, 95, 190, 191}) {
            Check.is("coder at " + place, x.failing(place, 0), place % 8);
            Check.is("picture at " + place, x.failing(place, 1), place / 8);
        }
        Check.index("place 192", () -> x.failing(192, 0));
        Check.index("place -1", () -> x.failing(-1, 1));
        Face y = Check.tables(2, 2);
        Check.index("none failed", () -> y.failing(0, 0));
        y.fails(1, 0);
        Check.is("the only one", y.failing(0, 0), 1);
        Check.is("the only one", y.failing(0, 1), 0);
        Check.index("place 1", () -> y.failing(1, 0));
        y.fails(0, 1);
        Check.is("the first one stays", y.failing(0, 0), 1);
        Check.is("the second one", y.failing(1, 0), 0);
        Check.is("the second one", y.failing(1, 1), 1);
    }

    private static void leastOfEqualOnes() {
        Check.says("Promise 8: of equal ones the least");
        Face x = Check.tables(8, 24);
        for (int coder = 7; coder >= 0; coder--) {
            x.point(coder, 23, 5, coder);
            Check.is("equal ones from " + coder, x.least(23, GREATEST), coder);
        }
        for (int coder = 0; coder < 8; coder++) {
            Check.is("within error " + coder, x.least(23, coder), 0);
        }
        for (int coder = 0; coder < 7; coder++) {
            x.fails(coder, 23);
            Check.is("failed up to " + coder, x.least(23, GREATEST), coder + 1);
        }
        x.fails(7, 23);
        Check.is("all failed", x.least(23, GREATEST), NONE);
    }

    private static void leastWithinTheError() {
        Check.says("Promise 8: a point with the least bytes whose error is at most as told");
        Face x = Check.tables(3, 1);
        Check.points(x, 0, 0, 30, 10);
        Check.points(x, 1, 0, 20, 20, 40, 5);
        Check.points(x, 2, 0, 10, 30, 50, 0);
        int[] errors = {0, 4, 5, 9, 10, 19, 20, 29, 30, 31};
        int[] coders = {2, 2, 1, 1, 0, 0, 1, 1, 2, 2};
        for (int k = 0; k < errors.length; k++) {
            Check.is("error " + errors[k], x.least(0, errors[k]), coders[k]);
        }
    }

    private static void leastOfTheGreatest() {
        Check.says("Promise 8: IllegalArgument: the error is below 0.");
        Face x = Check.tables(2, 1);
        x.point(1, 0, GREATEST, GREATEST);
        Check.is("error 0", x.least(0, 0), NONE);
        Check.is("error 999999999", x.least(0, GREATEST - 1), NONE);
        Check.is("error 1000000000", x.least(0, GREATEST), 1);
        Check.is("error 1000000001", x.least(0, GREATEST + 1), 1);
        Check.is("the greatest error", x.least(0, Integer.MAX_VALUE), 1);
        Check.argument("error -1", () -> x.least(0, -1));
        Check.argument("the least error", () -> x.least(0, Integer.MIN_VALUE));
        x.point(0, 0, GREATEST, 0);
        Check.is("error 0 now", x.least(0, 0), 0);
    }

    private static void leastOfNone() {
        Check.says("Promise 8: NONE.");
        Face x = Check.tables(8, 24);
        Check.is("an empty picture", x.least(23, GREATEST), NONE);
        x.point(0, 22, 1, 0);
        Check.is("the picture beside", x.least(23, GREATEST), NONE);
        x.point(0, 23, 1, 1);
        Check.is("too great an error", x.least(23, 0), NONE);
        x.fails(0, 23);
        Check.is("failed", x.least(23, GREATEST), NONE);
    }

    private static void sumOfNone() {
        Check.says("Promise 9: NONE if it has no counted pair.");
        Face x = Check.tables(3, 2);
        Check.is("empty pairs", x.sum(1), NONE);
        x.point(0, 1, 1, 0);
        x.point(2, 0, 1, 0);
        Check.is("beside counted ones", x.sum(1), NONE);
        x.fails(1, 0);
        Check.is("a failed pair and an empty one", x.sum(1), NONE);
        x.point(1, 1, 1, 0);
        Check.is("a counted pair", x.sum(1), 1);
        x.fails(1, 1);
        Check.is("all failed", x.sum(1), NONE);
    }

    private static void meanOfNone() {
        Check.says("Promise 10: IllegalState: it has no counted pair.");
        Face x = Check.tables(3, 2);
        Check.state("empty pairs", () -> x.mean(1, true));
        Check.state("empty pairs", () -> x.mean(1, false));
        x.point(0, 1, 1, 0);
        x.point(2, 0, 1, 0);
        Check.state("beside counted ones", () -> x.mean(1, true));
        x.fails(1, 0);
        Check.state("a failed pair", () -> x.mean(1, false));
        x.point(1, 1, 9, 0);
        Check.is("a counted pair", x.mean(1, true), 9);
        Check.is("a counted pair", x.mean(1, false), 1);
        x.fails(1, 1);
        Check.state("all failed", () -> x.mean(1, true));
        Check.state("all failed", () -> x.mean(1, false));
    }

    private static void rankOfNone() {
        Check.says("Promise 11: IllegalState: it has no counted pair.");
        Face x = Check.tables(3, 2);
        Check.state("empty pairs", () -> x.rank(1));
        x.point(0, 1, 1, 0);
        x.point(2, 0, 1, 0);
        Check.state("beside counted ones", () -> x.rank(1));
        x.fails(1, 0);
        Check.state("a failed pair", () -> x.rank(1));
        Check.is("those that are counted", x.rank(0), 3);
        x.point(1, 1, 9, 0);
        Check.is("a counted pair", x.rank(1), 6);
        x.fails(1, 1);
        Check.state("all failed", () -> x.rank(1));
    }

    private static void hullOfNone() {
        Check.says("Promise 12: 0 if it is not counted.");
        Face x = Check.tables(2, 2);
        Check.is("empty", x.hull(1, 1), 0);
        x.point(1, 0, 1, 1);
        x.point(0, 1, 1, 1);
        Check.is("beside counted ones", x.hull(1, 1), 0);
        x.point(1, 1, 2, 1);
        Check.is("one point", x.hull(1, 1), 1);
        x.point(1, 1, 1, 2);
        Check.is("two points", x.hull(1, 1), 2);
        x.fails(1, 1);
        Check.is("failed", x.hull(1, 1), 0);
        Check.is("beside a failed one", x.hull(1, 0), 1);
    }

    /** Six points, each of which is on the hull. */
    private static Face sixOnTheHull() {
        Face x = Check.tables(8, 24);
        Check.points(x, 7, 23, 4, 90, 1, 1000, 6, 50, 3, 200, 2, 500, 5, 60);
        return x;
    }

    private static void pointsOnTheHull() {
        Check.says("Promise 13: Of point k of a pair's HULL: bytes (what = 0), error (1).");
        Face x = sixOnTheHull();
        int[] errors = {1000, 500, 200, 90, 60, 50};
        Check.is("hull", x.hull(7, 23), 6);
        for (int k = 0; k < 6; k++) {
            Check.is("bytes of " + k, x.onHull(7, 23, k, 0), k + 1);
            Check.is("error of " + k, x.onHull(7, 23, k, 1), errors[k]);
        }
        Check.index("k 6", () -> x.onHull(7, 23, 6, 0));
        Check.index("k -1", () -> x.onHull(7, 23, -1, 0));
        Check.argument("what 2", () -> x.onHull(7, 23, 5, 2));
        Check.argument("what -1", () -> x.onHull(7, 23, 0, -1));
        x.fails(7, 23);
        Check.index("failed", () -> x.onHull(7, 23, 0, 0));
        Check.index("empty", () -> x.onHull(7, 22, 0, 0));
    }

    private static void slopesOfTheHull() {
        Check.says("Promise 14: SLOPE k of a pair: numerator, or denominator.");
        Face x = sixOnTheHull();
        int[] falls = {500, 300, 110, 30, 10};
        for (int k = 0; k < 5; k++) {
            Check.is("numerator of " + k, x.slope(7, 23, k, true), falls[k]);
            Check.is("denominator of " + k, x.slope(7, 23, k, false), 1);
        }
        Check.index("k 5", () -> x.slope(7, 23, 5, true));
        Check.index("k 5", () -> x.slope(7, 23, 5, false));
        Check.index("k -1", () -> x.slope(7, 23, -1, true));
        x.point(0, 0, 7, 7);
        Check.index("one point", () -> x.slope(0, 0, 0, true));
        x.point(0, 0, 9, 1);
        Check.is("two points", x.slope(0, 0, 0, true), 3);
        Check.is("two points", x.slope(0, 0, 0, false), 1);
        Check.index("k 1 of two points", () -> x.slope(0, 0, 1, true));
        x.fails(0, 0);
        Check.index("failed", () -> x.slope(0, 0, 0, true));
        Check.index("empty", () -> x.slope(0, 1, 0, true));
    }

    private static void signsAre(String name, Face x, int one, int other, int... due) {
        for (int what = 0; what < 4; what++) {
            Check.is(name + ", what " + what, x.signs(one, other, what), due[what]);
        }
    }

    private static void signsOfNone() {
        Check.says("Promise 15: of pictures that both have counted");
        Face x = Check.tables(2, 3);
        signsAre("empty", x, 0, 1, 0, 0, 1, 1);
        x.point(0, 0, 1, 0);
        signsAre("one of them", x, 0, 1, 0, 0, 1, 1);
        x.point(1, 1, 1, 0);
        signsAre("other pictures", x, 0, 1, 0, 0, 1, 1);
        x.point(1, 0, 2, 0);
        signsAre("one picture", x, 0, 1, 1, 0, 1, 1);
        signsAre("the other way round", x, 1, 0, 0, 1, 1, 1);
        signsAre("itself", x, 1, 1, 0, 0, 1, 1);
        x.point(0, 1, 1, 0);
        signsAre("the same bytes", x, 0, 1, 1, 0, 1, 1);
        x.point(0, 2, 1, 0);
        x.point(1, 2, 2, 0);
        signsAre("two of three", x, 0, 1, 2, 0, 1, 2);
        x.fails(1, 2);
        signsAre("failed at one", x, 0, 1, 1, 0, 1, 1);
        Check.argument("what 4", () -> x.signs(0, 1, 4));
        Check.argument("what -1", () -> x.signs(0, 1, -1));
    }

    private static void textIs(String name, Face x, String due) {
        Check.is(name + ": length", x.text(), due.length());
        Check.same(name, Check.kept(x), due);
        Check.index(name + ": behind it", () -> x.charAt(due.length()));
        Check.index(name + ": before it", () -> x.charAt(-1));
    }

    private static void shortestTexts() {
        Check.says("Promise 18: or \"-\", if it has no counted pair, and LF");
        textIs("no coders", new Table(), "");
        textIs("pictures alone", Check.tables(0, 24), "");
        textIs("one coder", Check.tables(1, 0), "0 -\n");
        textIs("eight coders", Check.tables(8, 0), "0 -\n1 -\n2 -\n3 -\n4 -\n5 -\n6 -\n7 -\n");
        Face x = Check.tables(1, 1);
        textIs("an empty pair", x, "0 -\n");
        x.point(0, 0, 1, GREATEST);
        textIs("the least sum", x, "0 1 2\n");
        x.fails(0, 0);
        textIs("a failed pair", x, "0 -\n");
    }

    /** Eleven digits in each sum; one coder is the least, so the others have rank 10: two digits. */
    private static void longestText() {
        Check.says("Promise 18: a line for each coder, with its number, a blank, its sum and a blank and its rank");
        Face x = Check.tables(8, 24);
        for (int coder = 0; coder < 8; coder++) {
            Check.everyPicture(x, coder, 24, coder == 3 ? GREATEST - 1 : GREATEST);
        }
        StringBuilder due = new StringBuilder();
        for (int coder = 0; coder < 8; coder++) {
            due.append(coder).append(coder == 3 ? " 23999999976 2\n" : " 24000000000 10\n");
        }
        Check.is("length", x.text(), 135);
        for (int k = 0; k < 135; k++) {
            Check.is("character " + k, x.charAt(k), due.charAt(k));
        }
        Check.index("character 135", () -> x.charAt(135));
        Check.index("character -1", () -> x.charAt(-1));
    }

    private static void digitsOfTheText() {
        Check.says("Promise 18: its sum");
        long[] sums = {1, 9, 10, 11, 99, 100, 101, 999999999, 1000000000, 1000000001, 2147483647L,
            2147483648L, 9999999999L, 10000000000L, 10000000001L, 20304050607L, 24000000000L};
        for (long sum : sums) {
            Face x = Check.tables(1, 24);
            long left = sum;
            for (int picture = 0; left > 0; picture++) {
                x.point(0, picture, (int) Math.min(left, GREATEST), 0);
                left -= Math.min(left, GREATEST);
            }
            textIs("sum " + sum, x, "0 " + sum + " 2\n");
        }
    }

    private static void rankOfTwoDigits() {
        Check.says("Promise 18: its rank");
        Face x = Check.tables(8, 1);
        for (int coder = 0; coder < 8; coder++) {
            x.point(coder, 0, 8 - coder, 0);
        }
        textIs("all ranks", x, "0 8 16\n1 7 14\n2 6 12\n3 5 10\n4 4 8\n5 3 6\n6 2 4\n7 1 2\n");
        Face same = Check.tables(8, 1);
        for (int coder = 0; coder < 8; coder++) {
            same.point(coder, 0, 3, 0);
        }
        textIs("one rank", same, "0 3 9\n1 3 9\n2 3 9\n3 3 9\n4 3 9\n5 3 9\n6 3 9\n7 3 9\n");
    }

    private static void textMadeLast() {
        Check.says("Promise 19: A character of what text() made last.");
        Face x = Check.tables(2, 1);
        x.point(0, 0, 123456, 0);
        Check.index("nothing made yet", () -> x.charAt(0));
        x.text();
        x.coder();
        x.point(1, 0, 7, 0);
        x.fails(0, 0);
        Check.same("made before", Check.kept(x), "0 123456 2\n1 -\n");
        textIs("made anew, and shorter", x, "0 -\n1 7 2\n2 -\n");
        x.fails(1, 0);
        textIs("shorter again", x, "0 -\n1 -\n2 -\n");
        Check.index("no character of an older text", () -> x.charAt(12));
    }

    private static void toldOfAnotherWhat() {
        Check.says("Promise 20: NONE for another what.");
        Face x = Check.tables(8, 24);
        for (int what : new int[] {Integer.MIN_VALUE, -2, -1, 4, 5, Integer.MAX_VALUE}) {
            Check.is("told " + what, x.told(what), NONE);
        }
    }

    private static void toldOfAll() {
        Check.says("Promise 20: Coders (what = 0), pictures (1), points (2), counted pairs (3)");
        Face x = Check.tables(8, 24);
        for (int pair = 0; pair < 192; pair++) {
            x.point(pair / 24, pair % 24, 1, 0);
            x.point(pair / 24, pair % 24, 1, 0);
        }
        Check.is("coders", x.told(0), 8);
        Check.is("pictures", x.told(1), 24);
        Check.is("points", x.told(2), 384);
        Check.is("counted", x.told(3), 192);
        x.fails(7, 23);
        Check.is("points", x.told(2), 382);
        Check.is("counted", x.told(3), 191);
    }

    private static Face cleared() {
        Face x = Check.tables(8, 24);
        for (int picture = 0; picture < 24; picture++) {
            Check.points(x, 7, picture, 1, 1, 2, 0);
            x.fails(0, picture);
        }
        x.text();
        x.clear();
        return x;
    }

    private static void clearOfAll() {
        Check.says("Promise 21: No coders, no pictures, no text.");
        Check.same("all is as new", Asked.all(PromisesTest::cleared), Asked.all(Table::new));
        Check.same("and as new when they come again",
            Asked.all(() -> Check.sized(cleared(), 8, 24)), Asked.all(() -> Check.tables(8, 24)));
        Face x = cleared();
        Check.index("no text", () -> x.charAt(0));
        Check.is("none failed", x.failed(), 0);
        Check.sized(x, 8, 24);
        Check.index("no failure", () -> x.failing(0, 0));
        Check.is("no points", x.told(2), 0);
        Check.is("a pair that had failed", x.point(0, 0, 9, 9), 1);
        Check.is("a pair that had points", x.point(7, 0, 9, 9), 1);
        Check.is("its bytes", x.sum(7), 9);
        Check.is("it may fail", x.fails(0, 1), 0);
        Check.is("it failed first", x.failing(0, 1), 1);
        Check.unsupported("nine coders", x::coder);
        Check.unsupported("25 pictures", x::picture);
    }

    private static void clearAgainAndAgain() {
        Check.says("Promise 21: No coders, no pictures, no text.");
        Face x = new Table();
        x.clear();
        x.clear();
        for (int turn = 0; turn < 10; turn++) {
            for (int k = 0; k < 8; k++) {
                Check.is("coder", x.coder(), k);
            }
            for (int k = 0; k < 24; k++) {
                Check.is("picture", x.picture(), k);
            }
            Check.is("point", x.point(7, 23, 5, 5), 1);
            Check.is("fails", x.fails(7, 22), 0);
            Check.is("failed", x.failed(), 1);
            Check.is("text", x.text(), 34);
            Check.is("points", x.told(2), 1);
            x.clear();
            Check.index("no text", () -> x.charAt(0));
        }
    }

    private static void longestRun() {
        Check.says("An object is used for at most 512 calls after it has been made");
        Face x = Check.tables(8, 24);
        for (int k = 0; k < 480; k++) {
            Check.is("point", x.point(k / 60, k / 6 % 10, GREATEST - k, k), k % 6 + 1);
        }
        Check.is("calls left", x.left(), 0);
        Face y = Check.tables(8, 24);
        for (int k = 0; k < 478; k++) {
            y.point(k / 60, k / 6 % 10, GREATEST - k, k);
        }
        Check.is("call 511", y.told(2), 478);
        Check.is("call 512", y.sum(0), 9999999680L);
    }
}
