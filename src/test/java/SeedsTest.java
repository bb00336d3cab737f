/**
 * DRAWN AGAIN, draws and fill, at their boundaries. What is due was worked out beside, with numbers
 * of any size, and not by the class or the model.
 *
 * With seed 0 nothing runs over at the first number; 2 makes it run over a long with a sign, 3 one
 * without; after the four long ones the first number has 64 bits of 1, of 0, the highest one alone,
 * and all but the highest one.
 */
final class SeedsTest {
    private static final long ALL_BITS = -2810872687533676688L;
    private static final long NO_BITS = -7379792620528906219L;
    private static final long HIGHEST_BIT = 1843579416325869589L;
    private static final long ALL_BUT_HIGHEST = 6412499349321099120L;
    private static final long[] SEEDS = {0, 1, 2, 3, -1, -2, Long.MAX_VALUE, Long.MIN_VALUE,
        ALL_BITS, NO_BITS, HIGHEST_BIT, ALL_BUT_HIGHEST};

    private static final int GREATEST = 1000000000;

    public static void main(String[] args) {
        drawsOfFive();
        drawsBothWays();
        drawsOfTheGreatest();
        drawsByNumber();
        drawsOfEqualBytes();
        drawsOfOnePicture();
        rangeOfTimes();
        drawsOfNone();
        drawsKeepNothing();
        firstFilledPair();
        leastAndMostPoints();
        rangeOfFilledPoints();
        orderOfFilledPairs();
        wholeTables();
        allPointsGo();
        allFailuresGo();
        filledAgain();
        Check.end();
    }

    /** Seven pictures, of which two are not counted for both. */
    private static Face five() {
        Face x = Check.tables(8, 7);
        int[] one = {10, 1, 500, 30, 900, 20, 7};
        int[] other = {40, 0, 480, 31, 1, 15, 8};
        for (int picture = 0; picture < 7; picture++) {
            x.point(0, picture, one[picture], 0);
            if (other[picture] != 0) {
                x.point(7, picture, other[picture], 0);
            }
        }
        x.fails(0, 4);
        return x;
    }

    private static void drawsAre(long seed, int... due) {
        int[] times = {1, 2, 17, 199, 200};
        Face x = five();
        Check.is("seed " + seed + ", 0 times", x.draws(0, 7, seed, 0), 0);
        for (int k = 0; k < times.length; k++) {
            Check.is("seed " + seed + ", " + times[k] + " times", x.draws(0, 7, seed, times[k]), due[k]);
        }
    }

    private static void drawsOfFive() {
        Check.says("(running over; the seed is the one before the first) .. the 31 highest bits of the next one");
        drawsAre(0, 1, 2, 9, 126, 126);
        drawsAre(1, 1, 2, 11, 110, 111);
        drawsAre(2, 1, 2, 9, 110, 111);
        drawsAre(3, 1, 2, 10, 112, 112);
        drawsAre(-1, 0, 1, 11, 118, 118);
        drawsAre(-2, 0, 1, 11, 118, 119);
        drawsAre(Long.MAX_VALUE, 1, 1, 8, 110, 111);
        drawsAre(Long.MIN_VALUE, 1, 1, 8, 106, 107);
        drawsAre(ALL_BITS, 0, 1, 10, 114, 114);
        drawsAre(NO_BITS, 1, 2, 9, 119, 119);
        drawsAre(HIGHEST_BIT, 1, 1, 9, 111, 112);
        drawsAre(ALL_BUT_HIGHEST, 0, 1, 8, 117, 118);
    }

    /** Two pictures with bytes 1 and 2, and 2 and 1: just when both times the first is drawn is it less. */
    private static void drawsBothWays() {
        Check.says("how often the first one's bytes, summed, are less than the other one's");
        int[] due = {47, 44, 55, 43, 53, 49, 53, 47, 56, 43, 43, 56};
        int[] back = {59, 49, 38, 57, 44, 41, 44, 59, 48, 54, 54, 48};
        Face x = Check.tables(2, 2);
        Check.points(x, 0, 0, 1, 0);
        Check.points(x, 1, 0, 2, 0);
        Check.points(x, 0, 1, 2, 0);
        Check.points(x, 1, 1, 1, 0);
        for (int k = 0; k < SEEDS.length; k++) {
            Check.is("seed " + SEEDS[k], x.draws(0, 1, SEEDS[k], 200), due[k]);
            Check.is("back, seed " + SEEDS[k], x.draws(1, 0, SEEDS[k], 200), back[k]);
        }
    }

    /** 24 pictures; the sums differ by up to 24 times 999999999, far more than an int holds. */
    private static void drawsOfTheGreatest() {
        Check.says("as many are drawn as there are (each as often as it comes)");
        int[] due = {92, 84, 98, 72, 93, 83, 93, 92, 88, 93, 93, 88};
        Face x = Check.tables(2, 24);
        for (int picture = 0; picture < 24; picture++) {
            x.point(0, picture, picture % 2 == 0 ? 1 : GREATEST, 0);
            x.point(1, picture, picture % 2 == 0 ? GREATEST : 1, 0);
        }
        for (int k = 0; k < SEEDS.length; k++) {
            Check.is("seed " + SEEDS[k], x.draws(0, 1, SEEDS[k], 200), due[k]);
        }
        Face all = Check.tables(2, 24);
        Check.everyPicture(all, 0, 24, 1);
        Check.everyPicture(all, 1, 24, GREATEST);
        for (long seed : SEEDS) {
            Check.is("always less", all.draws(0, 1, seed, 200), 200);
            Check.is("never less", all.draws(1, 0, seed, 200), 0);
        }
    }

    /** Each picture has twice the bytes of the one before, so it tells which ones are drawn. */
    private static void drawsByNumber() {
        Check.says("of the pictures that both coders have counted, by number");
        int[] due = {108, 127, 115, 107, 103, 100, 97, 111, 101, 110, 109, 99};
        Face x = Check.tables(2, 24);
        for (int picture = 23; picture >= 0; picture--) {
            x.point(1, picture, 699050, 0);
            x.point(0, picture, 1 << picture, 0);
        }
        for (int k = 0; k < SEEDS.length; k++) {
            Check.is("seed " + SEEDS[k], x.draws(0, 1, SEEDS[k], 200), due[k]);
        }
    }

    private static void drawsOfEqualBytes() {
        Check.says("are less than the other one's");
        Face x = Check.tables(2, 24);
        Check.everyPicture(x, 0, 24, GREATEST);
        Check.everyPicture(x, 1, 24, GREATEST);
        for (long seed : SEEDS) {
            Check.is("equal ones", x.draws(0, 1, seed, 200), 0);
            Check.is("itself", x.draws(1, 1, seed, 200), 0);
        }
    }

    private static void drawsOfOnePicture() {
        Check.says("as many are drawn as there are");
        Face x = Check.tables(2, 24);
        x.point(0, 23, GREATEST - 1, 0);
        x.point(1, 23, GREATEST, 0);
        for (long seed : SEEDS) {
            Check.is("less", x.draws(0, 1, seed, 200), 200);
            Check.is("more", x.draws(1, 0, seed, 200), 0);
        }
    }

    private static void rangeOfTimes() {
        Check.says("IllegalArgument: the times are not 0 .. 200.");
        Face x = Check.tables(2, 1);
        x.point(0, 0, 1, 0);
        x.point(1, 0, 2, 0);
        for (int times : new int[] {0, 1, 2, 100, 199, 200}) {
            Check.is(times + " times", x.draws(0, 1, 5, times), times);
        }
        for (int times : new int[] {Integer.MIN_VALUE, -200, -1, 201, 202, Integer.MAX_VALUE}) {
            Check.argument(times + " times", () -> x.draws(0, 1, 5, times));
        }
    }

    private static void drawsOfNone() {
        Check.says("IllegalState: there is no such picture.");
        Face x = Check.tables(2, 2);
        Check.state("empty pairs", () -> x.draws(0, 1, 5, 1));
        Check.state("empty pairs, with itself", () -> x.draws(0, 0, 5, 1));
        Check.state("empty pairs, 0 times", () -> x.draws(0, 1, 5, 0));
        x.point(0, 0, 1, 0);
        x.point(1, 1, 2, 0);
        Check.state("other pictures", () -> x.draws(0, 1, 5, 200));
        x.point(1, 0, 2, 0);
        Check.is("one picture", x.draws(0, 1, 5, 200), 200);
        x.fails(0, 0);
        Check.state("failed", () -> x.draws(0, 1, 5, 200));
        Check.state("failed, 0 times", () -> x.draws(1, 0, 5, 0));
    }

    private static void drawsKeepNothing() {
        Check.says("the seed is the one before the first");
        Face x = five();
        for (int turn = 0; turn < 3; turn++) {
            Check.is("the same seed", x.draws(0, 7, -2, 199), 118);
            Check.is("another seed", x.draws(0, 7, 3, 17), 10);
        }
        Check.same("nothing changes", Asked.all(() -> {
            Face y = five();
            y.draws(0, 7, 3, 200);
            return y;
        }), Asked.all(SeedsTest::five));
    }

    /** A pair that fails is told by -1. */
    private static void filledWith(long seed, int points, String hull) {
        Face x = Check.tables(1, 1);
        Check.is("fill by " + seed, x.fill(seed), Math.max(0, points));
        Check.is("failed", x.failed(), points < 0 ? 1 : 0);
        Check.is("points", x.told(2), Math.max(0, points));
        Check.is("counted", x.told(3), points > 0 ? 1 : 0);
        Check.same("hull", Check.hullOf(x, 0, 0), hull);
        if (points < 0) {
            Check.state("failed already", () -> x.fails(0, 0));
        } else {
            Check.is("points that go", x.fails(0, 0), points);
        }
    }

    private static void firstFilledPair() {
        Check.says("(running over; the seed is the one before the first) .. the 31 highest bits of the next one");
        filledWith(0, -1, "");
        filledWith(1, 1, "197,870 ");
        filledWith(2, 1, "457,504 ");
        filledWith(3, 6, "90,609 471/626 716,138 ");
        filledWith(-1, 3, "678,602 555/208 886,47 ");
        filledWith(-2, -1, "");
        filledWith(Long.MAX_VALUE, 2, "41,163 ");
        filledWith(Long.MIN_VALUE, 2, "114,60 ");
        filledWith(ALL_BITS, 5, "48,440 ");
        filledWith(NO_BITS, 2, "237,125 ");
        filledWith(HIGHEST_BIT, 3, "61,949 941/7 68,8 ");
        filledWith(ALL_BUT_HIGHEST, 4, "164,61 21/263 427,40 ");
    }

    private static void leastAndMostPoints() {
        Check.says("for 8 it fails; else a number below 7 more, so many points");
        filledWith(10, 0, "");
        filledWith(3, 6, "90,609 471/626 716,138 ");
        Face none = Check.tables(1, 3);
        Check.is("no pair has points", none.fill(12), 0);
        Check.is("none failed", none.failed(), 0);
        Check.is("none counted", none.told(3), 0);
        Face six = Check.tables(1, 3);
        Check.is("each pair has six", six.fill(81), 18);
        Check.is("all counted", six.told(3), 3);
        Check.is("sum", six.sum(0), 212 + 52 + 37);
        Check.unsupported("a seventh", () -> six.point(0, 2, 1, 1));
        Face failed = Check.tables(1, 3);
        Check.is("each pair fails", failed.fill(27), 0);
        Check.is("all failed", failed.failed(), 3);
        Check.is("the last one", failed.failing(2, 1), 2);
        Check.state("a point", () -> failed.point(0, 0, 1, 1));
    }

    private static void rangeOfFilledPoints() {
        Check.says("each a number below 1000 (and 1) of bytes, and one below 1000 of error");
        filledWith(5844, 1, "1,418 ");
        filledWith(200, 1, "1000,585 ");
        filledWith(4602, 1, "728,0 ");
        filledWith(1793, 1, "277,999 ");
    }

    private static void orderOfFilledPairs() {
        Check.says("for each pair that there is, by coder, then picture");
        Face wide = Check.tables(2, 3);
        Check.is("2 by 3", wide.fill(2), 11);
        Check.is("failed", wide.failed(), 1);
        Check.is("its coder", wide.failing(0, 0), 0);
        Check.is("its picture", wide.failing(0, 1), 2);
        Check.same("0, 0", Check.hullOf(wide, 0, 0), "457,504 ");
        Check.same("0, 1", Check.hullOf(wide, 0, 1), "266,2 ");
        Check.same("1, 0", Check.hullOf(wide, 1, 0), "155,736 ");
        Check.same("1, 1", Check.hullOf(wide, 1, 1), "14,86 ");
        Check.same("1, 2", Check.hullOf(wide, 1, 2), "35,725 71/4 43,583 16/21 127,519 355/872 999,164 ");
        Face high = Check.tables(3, 2);
        Check.is("3 by 2", high.fill(2), 11);
        Check.is("failed", high.failed(), 1);
        Check.is("its coder", high.failing(0, 0), 1);
        Check.is("its picture", high.failing(0, 1), 0);
        Check.same("2, 0", Check.hullOf(high, 2, 0), "14,86 ");
    }

    private static void allFilled(long seed, int points, int counted, int failed, int... sums) {
        Face x = Check.tables(8, 24);
        Check.is("fill by " + seed, x.fill(seed), points);
        Check.is("points", x.told(2), points);
        Check.is("counted", x.told(3), counted);
        Check.is("failed", x.failed(), failed);
        for (int coder = 0; coder < 8; coder++) {
            Check.is("sum of " + coder, x.sum(coder), sums[coder]);
        }
        int before = -1;
        for (int k = 0; k < failed; k++) {
            int pair = x.failing(k, 0) * 24 + x.failing(k, 1);
            Check.is("failed in order", pair > before ? 1 : 0, 1);
            before = pair;
        }
    }

    private static void wholeTables() {
        Check.says("How many points there are.");
        allFilled(0, 544, 153, 19, 2560, 2905, 6006, 5607, 4415, 4522, 5371, 4390);
        allFilled(1, 456, 140, 26, 4723, 6009, 6293, 4524, 4923, 3491, 4662, 3334);
        allFilled(2, 518, 154, 21, 3770, 4148, 5629, 6054, 5983, 6125, 5180, 5957);
        allFilled(3, 508, 139, 25, 3582, 4714, 5436, 5768, 2974, 3511, 2504, 3019);
        allFilled(-1, 510, 143, 23, 4446, 3500, 5414, 3847, 3943, 5164, 6272, 6444);
        allFilled(-2, 524, 150, 22, 5156, 5054, 5032, 6031, 5662, 4609, 6566, 3991);
        allFilled(Long.MAX_VALUE, 523, 154, 15, 4670, 4162, 4960, 4924, 5601, 3876, 6985, 6502);
        allFilled(Long.MIN_VALUE, 504, 150, 18, 4814, 4845, 5028, 4688, 6448, 5180, 4652, 5997);
        allFilled(ALL_BITS, 508, 144, 22, 4923, 3500, 5414, 3623, 4106, 5026, 5904, 6069);
        allFilled(NO_BITS, 544, 154, 18, 2797, 2905, 6006, 5607, 4415, 4522, 5371, 4390);
        allFilled(HIGHEST_BIT, 507, 155, 15, 6350, 5529, 4752, 4711, 6488, 5930, 3971, 5956);
        allFilled(ALL_BUT_HIGHEST, 520, 155, 16, 6328, 3710, 4769, 5643, 5210, 3687, 7381, 6087);
    }

    private static void allPointsGo() {
        Check.says("All points and failures go");
        Face x = Check.tables(1, 3);
        for (int picture = 0; picture < 3; picture++) {
            Check.points(x, 0, picture, 1, 0, 1, 0, 1, 0, 1, 0, 1, 0, 1, 0);
        }
        Check.is("no pair has points", x.fill(12), 0);
        Check.is("points", x.told(2), 0);
        Check.is("counted", x.told(3), 0);
        Check.is("sum", x.sum(0), -1);
        Check.is("no bytes come back", x.point(0, 1, 9, 9), 1);
        Check.is("sum", x.sum(0), 9);
    }

    private static void allFailuresGo() {
        Check.says("All points and failures go");
        Face x = Check.tables(1, 3);
        for (int picture = 2; picture >= 0; picture--) {
            x.fails(0, picture);
        }
        Check.is("each pair has six", x.fill(81), 18);
        Check.is("failed", x.failed(), 0);
        Check.index("none failed", () -> x.failing(0, 0));
        Check.is("each pair fails", x.fill(27), 0);
        Check.is("failed", x.failed(), 3);
        Check.is("the first one", x.failing(0, 1), 0);
        Check.is("the last one", x.failing(2, 1), 2);
        Check.index("place 3", () -> x.failing(3, 0));
    }

    private static void filledAgain() {
        Check.says("All points and failures go");
        Face x = Check.tables(8, 24);
        for (int turn = 0; turn < 20; turn++) {
            Check.is("fill by 3", x.fill(3), 508);
            Check.is("fill by 0", x.fill(0), 544);
            Check.is("failed", x.failed(), 19);
            Check.is("points", x.told(2), 544);
        }
        Check.is("coders stay", x.told(0), 8);
        Check.is("pictures stay", x.told(1), 24);
        Check.is("sum", x.sum(7), 4390);
    }
}
