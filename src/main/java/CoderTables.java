/**
 * Tables of coders by pictures: what each coder needed in bytes, at which error, for each picture,
 * and what can be said of that: best coders, sums, means, ranks, hulls, tests of signs and draws.
 *
 * All rows are made once, by the constructor; no call makes an object but the exception it throws.
 */
public final class CoderTables {
    public static final int NONE = -1;

    private static final int MAX_CODERS = 8;
    private static final int MAX_PICTURES = 24;
    private static final int MAX_PAIRS = MAX_CODERS * MAX_PICTURES;
    private static final int MAX_POINTS = 6;
    private static final int MAX_AMOUNT = 1000000000;
    private static final int MAX_TIMES = 200;

    /** Stands in pointCounts for a pair that has failed; so "counted" is just "above 0". */
    private static final int FAILED = -1;

    /** Euclid needs some 50 steps for the greatest sums that there can be. */
    private static final int MAX_DIVISIONS = 100;

    private int coders;
    private int pictures;

    /** By pair: coder * MAX_PICTURES + picture. */
    private final int[] pointCounts;
    private final int[] leastBytes;

    /** By slot: pair * MAX_POINTS + number of the point. */
    private final int[] pointBytes;
    private final int[] pointErrors;

    private final int[] failedPairs;
    private int failedCount;

    /** Rows that a call fills anew before it reads them. */
    private final int[] hullSlots;
    private int hullSize;
    private final int[] leads;
    private int leadCount;

    private final Numbers numbers;
    private final Lines lines;

    public CoderTables() {
        coders = 0;
        pictures = 0;
        pointCounts = new int[MAX_PAIRS];
        leastBytes = new int[MAX_PAIRS];
        pointBytes = new int[MAX_PAIRS * MAX_POINTS];
        pointErrors = new int[MAX_PAIRS * MAX_POINTS];
        failedPairs = new int[MAX_PAIRS];
        failedCount = 0;
        hullSlots = new int[MAX_POINTS];
        hullSize = 0;
        leads = new int[MAX_PICTURES];
        leadCount = 0;
        numbers = new Numbers();
        lines = new Lines();
    }

    public int coder() throws UnsupportedOperationException {
        if (coders >= MAX_CODERS) {
            throw new UnsupportedOperationException("there are eight coders already");
        }
        coders++;
        return coders - 1;
    }

    public int picture() throws UnsupportedOperationException {
        if (pictures >= MAX_PICTURES) {
            throw new UnsupportedOperationException("there are twenty-four pictures already");
        }
        pictures++;
        return pictures - 1;
    }

    public int point(int coder, int picture, int bytes, int error)
            throws IndexOutOfBoundsException, IllegalArgumentException, IllegalStateException,
            UnsupportedOperationException {
        int pair = pairOf(coder, picture);
        if (bytes < 1 || bytes > MAX_AMOUNT) {
            throw new IllegalArgumentException("bytes are 1 to 1000000000");
        }
        if (error < 0 || error > MAX_AMOUNT) {
            throw new IllegalArgumentException("an error is 0 to 1000000000");
        }
        if (pointCounts[pair] == FAILED) {
            throw new IllegalStateException("the pair has failed");
        }
        if (pointCounts[pair] >= MAX_POINTS) {
            throw new UnsupportedOperationException("the pair has six points already");
        }
        addPoint(pair, bytes, error);
        return pointCounts[pair];
    }

    public int fails(int coder, int picture)
            throws IndexOutOfBoundsException, IllegalStateException {
        int pair = pairOf(coder, picture);
        int lost = pointCounts[pair];
        if (lost == FAILED) {
            throw new IllegalStateException("the pair has failed already");
        }
        markFailed(pair);
        return lost;
    }

    public int failed() {
        return failedCount;
    }

    public int failing(int k, int what) throws IndexOutOfBoundsException, IllegalArgumentException {
        if (k < 0 || k >= failedCount) {
            throw new IndexOutOfBoundsException("so many pairs have not failed");
        }
        if (what != 0 && what != 1) {
            throw new IllegalArgumentException("what is 0 for the coder, 1 for the picture");
        }
        int pair = failedPairs[k];
        return what == 0 ? pair / MAX_PICTURES : pair % MAX_PICTURES;
    }

    public int least(int picture, int error)
            throws IndexOutOfBoundsException, IllegalArgumentException {
        needPicture(picture);
        if (error < 0) {
            throw new IllegalArgumentException("an error is not below 0");
        }
        int best = NONE;
        int bestBytes = 0;
        for (int coder = 0; coder < coders; coder++) {
            int bytes = leastBytesWithin(coder * MAX_PICTURES + picture, error);
            if (bytes != NONE && (best == NONE || bytes < bestBytes)) {
                best = coder;
                bestBytes = bytes;
            }
        }
        return best;
    }

    public long sum(int coder) throws IndexOutOfBoundsException {
        needCoder(coder);
        return countedOf(coder) == 0 ? NONE : sumOf(coder);
    }

    public long mean(int coder, boolean numerator)
            throws IndexOutOfBoundsException, IllegalStateException {
        needCoder(coder);
        needCounted(coder);
        long total = sumOf(coder);
        long counted = countedOf(coder);
        return numerator ? inLowestTerms(total, counted) : inLowestTerms(counted, total);
    }

    public int rank(int coder) throws IndexOutOfBoundsException, IllegalStateException {
        needCoder(coder);
        needCounted(coder);
        return rankOf(coder);
    }

    public int hull(int coder, int picture) throws IndexOutOfBoundsException {
        layHull(pairOf(coder, picture));
        return hullSize;
    }

    public int onHull(int coder, int picture, int k, int what)
            throws IndexOutOfBoundsException, IllegalArgumentException {
        layHull(pairOf(coder, picture));
        if (k < 0 || k >= hullSize) {
            throw new IndexOutOfBoundsException("there is no such point on the hull");
        }
        if (what != 0 && what != 1) {
            throw new IllegalArgumentException("what is 0 for bytes, 1 for the error");
        }
        int slot = hullSlots[k];
        return what == 0 ? pointBytes[slot] : pointErrors[slot];
    }

    public long slope(int coder, int picture, int k, boolean numerator)
            throws IndexOutOfBoundsException {
        layHull(pairOf(coder, picture));
        if (k < 0 || k >= hullSize - 1) {
            throw new IndexOutOfBoundsException("there is no such slope on the hull");
        }
        long fall = fallTo(hullSlots[k], hullSlots[k + 1]);
        long growth = growthTo(hullSlots[k], hullSlots[k + 1]);
        return numerator ? inLowestTerms(fall, growth) : inLowestTerms(growth, fall);
    }

    public long signs(int one, int other, int what)
            throws IndexOutOfBoundsException, IllegalArgumentException {
        needCoder(one);
        needCoder(other);
        if (what < 0 || what > 3) {
            throw new IllegalArgumentException("what is 0 to 3");
        }
        layLeads(one, other);
        int wins = countLeads(true);
        int losses = countLeads(false);
        switch (what) {
            case 0:
                return wins;
            case 1:
                return losses;
            default:
                return odds(wins + losses, Math.min(wins, losses), what == 2);
        }
    }

    public int draws(int one, int other, long seed, int times)
            throws IndexOutOfBoundsException, IllegalArgumentException, IllegalStateException {
        needCoder(one);
        needCoder(other);
        if (times < 0 || times > MAX_TIMES) {
            throw new IllegalArgumentException("the times are 0 to 200");
        }
        layLeads(one, other);
        if (leadCount == 0) {
            throw new IllegalStateException("there is no picture that both have counted");
        }
        numbers.start(seed);
        int ahead = 0;
        for (int time = 0; time < times; time++) {
            if (drawnLead() < 0) {
                ahead++;
            }
        }
        return ahead;
    }

    public int fill(long seed) {
        emptyPairs();
        numbers.start(seed);
        int points = 0;
        for (int coder = 0; coder < coders; coder++) {
            for (int picture = 0; picture < pictures; picture++) {
                points += fillPair(coder * MAX_PICTURES + picture);
            }
        }
        return points;
    }

    public int text() {
        lines.start();
        for (int coder = 0; coder < coders; coder++) {
            lines.putNumber(coder);
            lines.put(' ');
            if (countedOf(coder) == 0) {
                lines.put('-');
            } else {
                lines.putNumber(sumOf(coder));
                lines.put(' ');
                lines.putNumber(rankOf(coder));
            }
            lines.put('\n');
        }
        return lines.length;
    }

    public int charAt(int i) throws IndexOutOfBoundsException {
        if (i < 0 || i >= lines.length) {
            throw new IndexOutOfBoundsException("there is no such character");
        }
        return lines.chars[i];
    }

    public int told(int what) {
        switch (what) {
            case 0:
                return coders;
            case 1:
                return pictures;
            case 2:
                return allPoints();
            case 3:
                return allCounted();
            default:
                return NONE;
        }
    }

    public void clear() {
        coders = 0;
        pictures = 0;
        emptyPairs();
        lines.start();
    }

    private void needCoder(int coder) {
        if (coder < 0 || coder >= coders) {
            throw new IndexOutOfBoundsException("there is no such coder");
        }
    }

    private void needPicture(int picture) {
        if (picture < 0 || picture >= pictures) {
            throw new IndexOutOfBoundsException("there is no such picture");
        }
    }

    private void needCounted(int coder) {
        if (countedOf(coder) == 0) {
            throw new IllegalStateException("the coder has no counted pair");
        }
    }

    private int pairOf(int coder, int picture) {
        needCoder(coder);
        needPicture(picture);
        return coder * MAX_PICTURES + picture;
    }

    private boolean isCounted(int pair) {
        return pointCounts[pair] > 0;
    }

    /** Adds nothing to a pair that has failed or is full: its slots would be another pair's. */
    private void addPoint(int pair, int bytes, int error) {
        int count = pointCounts[pair];
        if (count < 0 || count >= MAX_POINTS) {
            return;
        }
        int slot = pair * MAX_POINTS + count;
        pointBytes[slot] = bytes;
        pointErrors[slot] = error;
        if (count == 0 || bytes < leastBytes[pair]) {
            leastBytes[pair] = bytes;
        }
        pointCounts[pair] = count + 1;
    }

    private void markFailed(int pair) {
        if (failedCount < MAX_PAIRS) {
            pointCounts[pair] = FAILED;
            failedPairs[failedCount] = pair;
            failedCount++;
        }
    }

    private void emptyPairs() {
        for (int pair = 0; pair < MAX_PAIRS; pair++) {
            pointCounts[pair] = 0;
        }
        failedCount = 0;
    }

    private int fillPair(int pair) {
        if (numbers.below(9) == 8) {
            markFailed(pair);
            return 0;
        }
        int points = numbers.below(7);
        for (int k = 0; k < points; k++) {
            int bytes = numbers.below(1000) + 1;
            int error = numbers.below(1000);
            addPoint(pair, bytes, error);
        }
        return points;
    }

    private int allPoints() {
        int points = 0;
        for (int pair = 0; pair < MAX_PAIRS; pair++) {
            if (isCounted(pair)) {
                points += pointCounts[pair];
            }
        }
        return points;
    }

    private int allCounted() {
        int counted = 0;
        for (int coder = 0; coder < coders; coder++) {
            counted += countedOf(coder);
        }
        return counted;
    }

    /** The least bytes of a pair's points whose error is at most as told; NONE without such a point. */
    private int leastBytesWithin(int pair, int error) {
        int least = NONE;
        int first = pair * MAX_POINTS;
        for (int k = 0; k < pointCounts[pair]; k++) {
            int bytes = pointBytes[first + k];
            if (pointErrors[first + k] <= error && (least == NONE || bytes < least)) {
                least = bytes;
            }
        }
        return least;
    }

    private int countedOf(int coder) {
        int counted = 0;
        for (int picture = 0; picture < pictures; picture++) {
            if (isCounted(coder * MAX_PICTURES + picture)) {
                counted++;
            }
        }
        return counted;
    }

    private long sumOf(int coder) {
        long total = 0;
        for (int picture = 0; picture < pictures; picture++) {
            int pair = coder * MAX_PICTURES + picture;
            if (isCounted(pair)) {
                total += leastBytes[pair];
            }
        }
        return total;
    }

    private int rankOf(int coder) {
        long total = sumOf(coder);
        long counted = countedOf(coder);
        int lesser = 0;
        int same = 0;
        for (int other = 0; other < coders; other++) {
            long otherCounted = countedOf(other);
            if (otherCounted > 0) {
                // Means are compared crosswise, so that nothing is rounded.
                int order = Long.compare(sumOf(other) * counted, total * otherCounted);
                if (order < 0) {
                    lesser++;
                } else if (order == 0) {
                    same++;
                }
            }
        }
        return 2 * lesser + same + 1;
    }

    private void layHull(int pair) {
        hullSize = 0;
        int slot = firstOfRow(pair);
        while (hullSize < MAX_POINTS && slot != NONE) {
            hullSlots[hullSize] = slot;
            hullSize++;
            slot = steepestFrom(pair, slot);
        }
    }

    private int firstOfRow(int pair) {
        int first = NONE;
        int begin = pair * MAX_POINTS;
        for (int slot = begin; slot < begin + pointCounts[pair]; slot++) {
            if (first == NONE || isBefore(slot, first)) {
                first = slot;
            }
        }
        return first;
    }

    private boolean isBefore(int slot, int other) {
        if (pointBytes[slot] != pointBytes[other]) {
            return pointBytes[slot] < pointBytes[other];
        }
        return pointErrors[slot] < pointErrors[other];
    }

    /**
     * The next point of the hull, or NONE. Points that are not best need no sorting out: from a
     * point of the row, the one that beats them falls more for a byte, so they are never taken.
     */
    private int steepestFrom(int pair, int last) {
        int steepest = NONE;
        int begin = pair * MAX_POINTS;
        for (int slot = begin; slot < begin + pointCounts[pair]; slot++) {
            if (growthTo(last, slot) > 0 && fallTo(last, slot) > 0
                    && (steepest == NONE || isBetterStep(last, slot, steepest))) {
                steepest = slot;
            }
        }
        return steepest;
    }

    private boolean isBetterStep(int last, int slot, int other) {
        long growth = growthTo(last, slot);
        long otherGrowth = growthTo(last, other);
        // Crosswise, at most 10^18: exact in a long.
        int order = Long.compare(fallTo(last, slot) * otherGrowth, fallTo(last, other) * growth);
        return order > 0 || (order == 0 && growth > otherGrowth);
    }

    private long fallTo(int from, int to) {
        return (long) pointErrors[from] - pointErrors[to];
    }

    private long growthTo(int from, int to) {
        return (long) pointBytes[to] - pointBytes[from];
    }

    /** For each picture that both have counted, by number: the first one's bytes less the other's. */
    private void layLeads(int one, int other) {
        leadCount = 0;
        for (int picture = 0; picture < pictures; picture++) {
            int pair = one * MAX_PICTURES + picture;
            int otherPair = other * MAX_PICTURES + picture;
            if (isCounted(pair) && isCounted(otherPair)) {
                leads[leadCount] = leastBytes[pair] - leastBytes[otherPair];
                leadCount++;
            }
        }
    }

    private int countLeads(boolean won) {
        int found = 0;
        for (int k = 0; k < leadCount; k++) {
            if (won ? leads[k] < 0 : leads[k] > 0) {
                found++;
            }
        }
        return found;
    }

    private long drawnLead() {
        long total = 0;
        for (int k = 0; k < leadCount; k++) {
            total += leads[numbers.below(leadCount)];
        }
        return total;
    }

    private static long odds(int n, int m, boolean numerator) {
        long ways = 1;
        long tail = 1;
        for (int i = 1; i <= m; i++) {
            ways = ways * (n - i + 1) / i;
            tail += ways;
        }
        long all = 1L << n;
        // Both tails share the middle one, so twice a tail can be more than all.
        long both = Math.min(2 * tail, all);
        return numerator ? inLowestTerms(both, all) : inLowestTerms(all, both);
    }

    /** One side of a fraction without what it has in common with the other side. */
    private static long inLowestTerms(long side, long otherSide) {
        long divisor = side;
        long rest = otherSide;
        for (int k = 0; k < MAX_DIVISIONS && rest != 0; k++) {
            long next = divisor % rest;
            divisor = rest;
            rest = next;
        }
        return divisor == 0 ? side : side / divisor;
    }

    /** The row of numbers that a seed begins. */
    private static final class Numbers {
        private long last;

        private void start(long seed) {
            last = seed;
        }

        private int below(int bound) {
            last = last * 6364136223846793005L + 1442695040888963407L;
            return bound <= 0 ? 0 : (int) (last >>> 33) % bound;
        }
    }

    /** The text, in a row that has room for the longest one. */
    private static final class Lines {
        /** The coder's digit, a blank, a sum of 11 digits, a blank, a rank of 2 digits, LF. */
        private static final int MAX_LINE = 17;
        private static final int MAX_DIGITS = 11;

        private final char[] chars = new char[MAX_CODERS * MAX_LINE];
        private int length;

        private void start() {
            length = 0;
        }

        private void put(char c) {
            if (length < chars.length) {
                chars[length] = c;
                length++;
            }
        }

        private void putNumber(long number) {
            long unit = 1;
            for (int k = 1; k < MAX_DIGITS && unit <= number / 10; k++) {
                unit *= 10;
            }
            for (int k = 0; k < MAX_DIGITS && unit > 0; k++) {
                put((char) ('0' + number / unit % 10));
                unit /= 10;
            }
        }
    }
}
