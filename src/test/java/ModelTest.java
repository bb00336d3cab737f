import java.util.Random;
import java.util.function.ToLongFunction;

/** Runs of 512 calls, drawn by seeds, on the class and on the model: each answer must be the same. */
final class ModelTest {
    private static final int RUNS = 1200;

    private final Random random;
    private final Face x = new Table();
    private final Face due = new Model();
    private final int run;
    /** Small amounts make points, means and slopes that are equal; great ones test the width. */
    private final int kind;

    private ModelTest(int run) {
        this.run = run;
        random = new Random(run);
        kind = run % 3;
    }

    public static void main(String[] args) {
        for (int run = 0; run < RUNS; run++) {
            new ModelTest(run).run();
        }
        Check.end();
    }

    private void run() {
        int coders = run % 5 == 0 ? 8 : random.nextInt(9);
        int pictures = run % 7 == 0 ? 24 : random.nextInt(25);
        for (int k = 0; k < coders; k++) {
            same("coder", Face::coder);
        }
        for (int k = 0; k < pictures; k++) {
            same("picture", Face::picture);
        }
        while (x.left() > 0) {
            call();
        }
    }

    private void same(String name, ToLongFunction<Face> call) {
        String where = "run " + run + ", " + name + ", " + x.left() + " calls before the end,";
        Check.same(where, Check.answer(() -> call.applyAsLong(x)), Check.answer(() -> call.applyAsLong(due)));
    }

    private int coder() {
        return random.nextInt(20) == 0 ? random.nextInt(11) - 1 : random.nextInt(Math.max(1, due.told(0)));
    }

    private int picture() {
        return random.nextInt(20) == 0 ? random.nextInt(27) - 1 : random.nextInt(Math.max(1, due.told(1)));
    }

    private int amount() {
        if (random.nextInt(40) == 0) {
            int[] edges = {-1, 0, 1, 1000000000, 1000000001, Integer.MAX_VALUE, Integer.MIN_VALUE};
            return edges[random.nextInt(edges.length)];
        }
        return kind == 0 ? 1 + random.nextInt(6) : kind == 1 ? 1 + random.nextInt(1000)
            : 1000000000 - random.nextInt(random.nextBoolean() ? 5 : 1000000000);
    }

    private void call() {
        int one = coder();
        int other = coder();
        int at = picture();
        int a = amount();
        int b = amount();
        int k = random.nextInt(8) - 1;
        int what = random.nextInt(20) == 0 ? random.nextInt(5) - 2 : random.nextInt(2);
        boolean side = random.nextBoolean();
        int pick = random.nextInt(100);
        if (pick < 40) {
            same("point", t -> t.point(one, at, a, b));
        } else if (pick < 43) {
            same("fails", t -> t.fails(one, at));
        } else if (pick < 46) {
            same("hull", t -> t.hull(one, at));
        } else if (pick < 54) {
            same("onHull", t -> t.onHull(one, at, k, what));
        } else if (pick < 60) {
            same("slope", t -> t.slope(one, at, k, side));
        } else if (pick < 66) {
            same("least", t -> t.least(at, a));
        } else if (pick < 72) {
            same("signs", t -> t.signs(one, other, k));
        } else if (pick < 94) {
            ofOneCoder(pick, one, k, what, side);
        } else {
            rare(one, other);
        }
    }

    private void ofOneCoder(int pick, int one, int k, int what, boolean side) {
        if (pick < 76) {
            same("sum", t -> t.sum(one));
        } else if (pick < 80) {
            same("mean", t -> t.mean(one, side));
        } else if (pick < 85) {
            same("rank", t -> t.rank(one));
        } else if (pick < 86) {
            same("failed", Face::failed);
        } else if (pick < 88) {
            same("failing", t -> t.failing(k, what));
        } else if (pick < 91) {
            same("told", t -> t.told(k));
        } else {
            int i = random.nextInt(140) - 1;
            same("charAt", t -> t.charAt(i));
        }
    }

    private void rare(int one, int other) {
        long seed = random.nextLong();
        int times = random.nextInt(12) == 0 ? random.nextInt(206) - 2 : random.nextInt(20);
        switch (random.nextInt(12)) {
            case 0:
                same("coder", Face::coder);
                break;
            case 1:
                same("picture", Face::picture);
                break;
            case 2:
                if (random.nextInt(3) == 0) {
                    same("fill", t -> t.fill(seed));
                }
                break;
            case 3:
                if (random.nextInt(12) == 0) {
                    x.clear();
                    due.clear();
                }
                break;
            case 4:
            case 5:
            case 6:
                same("text", Face::text);
                break;
            default:
                same("draws", t -> t.draws(one, other, seed, times));
        }
    }
}
