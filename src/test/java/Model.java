import java.math.BigInteger;
import java.util.ArrayList;
import java.util.Comparator;
import java.util.List;

/** The document's terms once more, word by word and without a care for speed, to compare with. */
final class Model implements Face {
    private static final class Pair {
        private final List<long[]> points = new ArrayList<>();
        private boolean failed = false;

        private boolean counted() {
            return !failed && !points.isEmpty();
        }

        private long bytes() {
            return points.stream().mapToLong(p -> p[0]).min().getAsLong();
        }
    }

    private final Pair[][] pairs = new Pair[8][24];
    private final List<int[]> failures = new ArrayList<>();
    private int coders = 0;
    private int pictures = 0;
    private String text = "";
    private BigInteger number;

    Model() {
        empty();
    }

    private void empty() {
        for (Pair[] row : pairs) {
            for (int picture = 0; picture < 24; picture++) {
                row[picture] = new Pair();
            }
        }
        failures.clear();
    }

    private void needCoder(int coder) {
        if (coder < 0 || coder >= coders) {
            throw new IndexOutOfBoundsException();
        }
    }

    private void needPicture(int picture) {
        if (picture < 0 || picture >= pictures) {
            throw new IndexOutOfBoundsException();
        }
    }

    private Pair pair(int coder, int picture) {
        needCoder(coder);
        needPicture(picture);
        return pairs[coder][picture];
    }

    private static void needArgument(boolean right) {
        if (!right) {
            throw new IllegalArgumentException();
        }
    }

    private static void needIndex(boolean right) {
        if (!right) {
            throw new IndexOutOfBoundsException();
        }
    }

    private static void needState(boolean right) {
        if (!right) {
            throw new IllegalStateException();
        }
    }

    private static void needRoom(boolean right) {
        if (!right) {
            throw new UnsupportedOperationException();
        }
    }

    @Override
    public int coder() {
        needRoom(coders < 8);
        return coders++;
    }

    @Override
    public int picture() {
        needRoom(pictures < 24);
        return pictures++;
    }

    @Override
    public int point(int coder, int picture, int bytes, int error) {
        Pair pair = pair(coder, picture);
        needArgument(bytes >= 1 && bytes <= 1000000000 && error >= 0 && error <= 1000000000);
        needState(!pair.failed);
        needRoom(pair.points.size() < 6);
        pair.points.add(new long[] {bytes, error});
        return pair.points.size();
    }

    @Override
    public int fails(int coder, int picture) {
        Pair pair = pair(coder, picture);
        needState(!pair.failed);
        int lost = pair.points.size();
        pair.points.clear();
        pair.failed = true;
        failures.add(new int[] {coder, picture});
        return lost;
    }

    @Override
    public int failed() {
        return failures.size();
    }

    @Override
    public int failing(int k, int what) {
        needIndex(k >= 0 && k < failures.size());
        needArgument(what == 0 || what == 1);
        return failures.get(k)[what];
    }

    @Override
    public int least(int picture, int error) {
        needPicture(picture);
        needArgument(error >= 0);
        int best = -1;
        long bytes = Long.MAX_VALUE;
        for (int coder = 0; coder < coders; coder++) {
            for (long[] point : pairs[coder][picture].points) {
                if (point[1] <= error && point[0] < bytes) {
                    best = coder;
                    bytes = point[0];
                }
            }
        }
        return best;
    }

    private List<Long> bytesOf(int coder) {
        List<Long> all = new ArrayList<>();
        for (Pair pair : pairs[coder]) {
            if (pair.counted()) {
                all.add(pair.bytes());
            }
        }
        return all;
    }

    /** Sum and count; the mean is their fraction. */
    private BigInteger[] meanOf(int coder) {
        List<Long> all = bytesOf(coder);
        long sum = all.stream().mapToLong(Long::longValue).sum();
        return new BigInteger[] {BigInteger.valueOf(sum), BigInteger.valueOf(all.size())};
    }

    private static long side(BigInteger numerator, BigInteger denominator, boolean first) {
        BigInteger common = numerator.gcd(denominator);
        return (first ? numerator : denominator).divide(common).longValueExact();
    }

    @Override
    public long sum(int coder) {
        needCoder(coder);
        return bytesOf(coder).isEmpty() ? -1 : meanOf(coder)[0].longValueExact();
    }

    @Override
    public long mean(int coder, boolean numerator) {
        needCoder(coder);
        needState(!bytesOf(coder).isEmpty());
        return side(meanOf(coder)[0], meanOf(coder)[1], numerator);
    }

    @Override
    public int rank(int coder) {
        needCoder(coder);
        needState(!bytesOf(coder).isEmpty());
        BigInteger[] mean = meanOf(coder);
        int rank = 1;
        for (int other = 0; other < coders; other++) {
            if (!bytesOf(other).isEmpty()) {
                BigInteger[] another = meanOf(other);
                int order = another[0].multiply(mean[1]).compareTo(mean[0].multiply(another[1]));
                rank += order < 0 ? 2 : order == 0 ? 1 : 0;
            }
        }
        return rank;
    }

    private static boolean alike(long[] a, long[] b) {
        return a[0] == b[0] && a[1] == b[1];
    }

    /** The best points, of those that are alike one, by bytes. */
    private static List<long[]> row(Pair pair) {
        List<long[]> row = new ArrayList<>();
        for (long[] point : pair.points) {
            boolean best = pair.points.stream()
                .noneMatch(p -> p[0] <= point[0] && p[1] <= point[1] && !alike(p, point));
            if (best && row.stream().noneMatch(p -> alike(p, point))) {
                row.add(point);
            }
        }
        row.sort(Comparator.comparingLong(p -> p[0]));
        return row;
    }

    private static List<long[]> hullOf(Pair pair) {
        List<long[]> row = row(pair);
        List<long[]> hull = new ArrayList<>();
        int at = 0;
        while (at < row.size()) {
            long[] last = row.get(at);
            hull.add(last);
            int next = row.size();
            for (int k = at + 1; k < row.size(); k++) {
                if (next == row.size() || !flatter(last, row.get(k), row.get(next))) {
                    next = k;
                }
            }
            at = next;
        }
        return hull;
    }

    private static boolean flatter(long[] from, long[] to, long[] than) {
        BigInteger left = BigInteger.valueOf(from[1] - to[1]).multiply(BigInteger.valueOf(than[0] - from[0]));
        BigInteger right = BigInteger.valueOf(from[1] - than[1]).multiply(BigInteger.valueOf(to[0] - from[0]));
        return left.compareTo(right) < 0;
    }

    @Override
    public int hull(int coder, int picture) {
        return hullOf(pair(coder, picture)).size();
    }

    @Override
    public int onHull(int coder, int picture, int k, int what) {
        List<long[]> hull = hullOf(pair(coder, picture));
        needIndex(k >= 0 && k < hull.size());
        needArgument(what == 0 || what == 1);
        return (int) hull.get(k)[what];
    }

    @Override
    public long slope(int coder, int picture, int k, boolean numerator) {
        List<long[]> hull = hullOf(pair(coder, picture));
        needIndex(k >= 0 && k < hull.size() - 1);
        long[] from = hull.get(k);
        long[] to = hull.get(k + 1);
        return side(BigInteger.valueOf(from[1] - to[1]), BigInteger.valueOf(to[0] - from[0]), numerator);
    }

    private static BigInteger factorial(int n) {
        return n < 2 ? BigInteger.ONE : BigInteger.valueOf(n).multiply(factorial(n - 1));
    }

    private static BigInteger ways(int n, int i) {
        return factorial(n).divide(factorial(i)).divide(factorial(n - i));
    }

    private List<long[]> common(int one, int other) {
        List<long[]> all = new ArrayList<>();
        for (int picture = 0; picture < pictures; picture++) {
            if (pairs[one][picture].counted() && pairs[other][picture].counted()) {
                all.add(new long[] {pairs[one][picture].bytes(), pairs[other][picture].bytes()});
            }
        }
        return all;
    }

    @Override
    public long signs(int one, int other, int what) {
        needCoder(one);
        needCoder(other);
        needArgument(what >= 0 && what <= 3);
        int w = (int) common(one, other).stream().filter(b -> b[0] < b[1]).count();
        int l = (int) common(one, other).stream().filter(b -> b[0] > b[1]).count();
        if (what < 2) {
            return what == 0 ? w : l;
        }
        BigInteger tails = BigInteger.ZERO;
        for (int i = 0; i <= Math.min(w, l); i++) {
            tails = tails.add(ways(w + l, i)).add(ways(w + l, i));
        }
        BigInteger all = BigInteger.TWO.pow(w + l);
        return tails.compareTo(all) > 0 ? 1 : side(tails, all, what == 2);
    }

    private int below(int n) {
        number = number.multiply(new BigInteger("6364136223846793005"))
            .add(new BigInteger("1442695040888963407")).mod(BigInteger.TWO.pow(64));
        return number.shiftRight(33).mod(BigInteger.valueOf(n)).intValueExact();
    }

    @Override
    public int draws(int one, int other, long seed, int times) {
        needCoder(one);
        needCoder(other);
        needArgument(times >= 0 && times <= 200);
        List<long[]> all = common(one, other);
        needState(!all.isEmpty());
        number = BigInteger.valueOf(seed);
        int less = 0;
        for (int time = 0; time < times; time++) {
            long first = 0;
            long second = 0;
            for (int k = 0; k < all.size(); k++) {
                long[] drawn = all.get(below(all.size()));
                first += drawn[0];
                second += drawn[1];
            }
            less += first < second ? 1 : 0;
        }
        return less;
    }

    @Override
    public int fill(long seed) {
        empty();
        number = BigInteger.valueOf(seed);
        for (int coder = 0; coder < coders; coder++) {
            for (int picture = 0; picture < pictures; picture++) {
                if (below(9) == 8) {
                    fails(coder, picture);
                    continue;
                }
                int points = below(7);
                for (int k = 0; k < points; k++) {
                    int bytes = below(1000) + 1;
                    point(coder, picture, bytes, below(1000));
                }
            }
        }
        return told(2);
    }

    @Override
    public int text() {
        StringBuilder made = new StringBuilder();
        for (int coder = 0; coder < coders; coder++) {
            made.append(coder).append(' ');
            made.append(bytesOf(coder).isEmpty() ? "-" : sum(coder) + " " + rank(coder)).append('\n');
        }
        text = made.toString();
        return text.length();
    }

    @Override
    public int charAt(int i) {
        needIndex(i >= 0 && i < text.length());
        return text.charAt(i);
    }

    @Override
    public int told(int what) {
        int points = 0;
        int counted = 0;
        for (Pair[] row : pairs) {
            for (Pair pair : row) {
                points += pair.points.size();
                counted += pair.counted() ? 1 : 0;
            }
        }
        return what == 0 ? coders : what == 1 ? pictures : what == 2 ? points : what == 3 ? counted : -1;
    }

    @Override
    public void clear() {
        empty();
        coders = 0;
        pictures = 0;
        text = "";
    }

    @Override
    public int left() {
        return Integer.MAX_VALUE;
    }
}
