import java.util.Random;

/** Runs of 512 calls, drawn by seeds, on the class and on the model: each answer must be the same. */
final class ModelTest {
    private static final int RUNS = 400;
    private static final int CALLS = 512;

    private final Random random;
    private final CoderTables x = new CoderTables();
    private final Model due = new Model();
    /** Small amounts make points, means and slopes that are equal; great ones test the width. */
    private final int kind;

    private ModelTest(long seed) {
        random = new Random(seed);
        kind = (int) (seed % 3);
    }

    public static void main(String[] args) {
        for (int run = 0; run < RUNS; run++) {
            new ModelTest(run).run(run);
        }
        Check.end();
    }

    private void run(int run) {
        int coders = random.nextInt(9);
        int pictures = random.nextInt(25);
        for (int k = 0; k < coders; k++) {
            same("coder()", x::coder, due::coder);
        }
        for (int k = 0; k < pictures; k++) {
            same("picture()", x::picture, due::picture);
        }
        for (int k = coders + pictures; k < CALLS; k++) {
            call("run " + run + ", call " + k + ": ");
        }
    }

    private void same(String name, Check.Call got, Check.Call model) {
        Check.same(name, Check.answer(got), Check.answer(model));
    }

    private int coder() {
        return random.nextInt(20) == 0 ? random.nextInt(11) - 1 : random.nextInt(Math.max(1, due.told(0)));
    }

    private int picture() {
        return random.nextInt(20) == 0 ? random.nextInt(27) - 1 : random.nextInt(Math.max(1, due.told(1)));
    }

    private int amount() {
        if (random.nextInt(40) == 0) {
            int[] edges = {-1, 0, 1, 1000000000, 1000000001, Integer.MAX_VALUE, Integer.MIN_VALUE};
            return edges[random.nextInt(edges.length)];
        }
        return kind == 0 ? 1 + random.nextInt(6) : kind == 1 ? 1 + random.nextInt(1000)
            : 1000000000 - random.nextInt(random.nextBoolean() ? 5 : 1000000000);
    }

    private void call(String name) {
        int one = coder();
        int other = coder();
        int at = picture();
        int a = amount();
        int b = amount();
        int k = random.nextInt(8) - 1;
        boolean side = random.nextBoolean();
        int pick = random.nextInt(100);
        if (pick < 40) {
            same(name + "point", () -> x.point(one, at, a, b), () -> due.point(one, at, a, b));
        } else if (pick < 43) {
            same(name + "fails", () -> x.fails(one, at), () -> due.fails(one, at));
        } else if (pick < 52) {
            same(name + "hull", () -> x.hull(one, at), () -> due.hull(one, at));
            same(name + "onHull", () -> x.onHull(one, at, k, 0), () -> due.onHull(one, at, k, 0));
            same(name + "onHull", () -> x.onHull(one, at, k, 1), () -> due.onHull(one, at, k, 1));
        } else if (pick < 60) {
            same(name + "slope", () -> x.slope(one, at, k, side), () -> due.slope(one, at, k, side));
        } else if (pick < 66) {
            same(name + "least", () -> x.least(at, a), () -> due.least(at, a));
        } else if (pick < 72) {
            same(name + "signs", () -> x.signs(one, other, k), () -> due.signs(one, other, k));
        } else if (pick < 94) {
            ofOneCoder(name, pick, one, k, side);
        } else {
            rare(name, one, other);
        }
    }

    private void ofOneCoder(String name, int pick, int one, int k, boolean side) {
        if (pick < 76) {
            same(name + "sum", () -> x.sum(one), () -> due.sum(one));
        } else if (pick < 80) {
            same(name + "mean", () -> x.mean(one, side), () -> due.mean(one, side));
        } else if (pick < 85) {
            same(name + "rank", () -> x.rank(one), () -> due.rank(one));
        } else if (pick < 88) {
            same(name + "failed", x::failed, due::failed);
            same(name + "failing", () -> x.failing(k, k & 3), () -> due.failing(k, k & 3));
        } else if (pick < 91) {
            same(name + "told", () -> x.told(k), () -> due.told(k));
        } else {
            int i = random.nextInt(140) - 1;
            same(name + "charAt", () -> x.charAt(i), () -> due.charAt(i));
        }
    }

    private void rare(String name, int one, int other) {
        long seed = random.nextLong();
        int times = random.nextInt(12) == 0 ? random.nextInt(206) - 2 : random.nextInt(20);
        switch (random.nextInt(12)) {
            case 0:
                same(name + "coder", x::coder, due::coder);
                break;
            case 1:
                same(name + "picture", x::picture, due::picture);
                break;
            case 2:
                if (random.nextInt(3) == 0) {
                    same(name + "fill", () -> x.fill(seed), () -> due.fill(seed));
                }
                break;
            case 3:
                if (random.nextInt(12) == 0) {
                    x.clear();
                    due.clear();
                }
                break;
            case 4:
            case 5:
            case 6:
                same(name + "text", x::text, due::text);
                break;
            default:
                same(name + "draws", () -> x.draws(one, other, seed, times),
                    () -> due.draws(one, other, seed, times));
        }
    }
}
