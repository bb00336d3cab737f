/** The class that is tested; it counts its calls, since what answers after the 512th is free. */
final class Table implements Face {
    static final int MAX_CALLS = 512;

    private final CoderTables inside = new CoderTables();
    private int calls = 0;

    private CoderTables called() {
        calls++;
        if (calls > MAX_CALLS) {
            throw new AssertionError("the test is wrong: more than 512 calls of one object");
        }
        return inside;
    }

    @Override
    public int left() {
        return MAX_CALLS - calls;
    }

    @Override
    public int coder() {
        return called().coder();
    }

    @Override
    public int picture() {
        return called().picture();
    }

    @Override
    public int point(int coder, int picture, int bytes, int error) {
        return called().point(coder, picture, bytes, error);
    }

    @Override
    public int fails(int coder, int picture) {
        return called().fails(coder, picture);
    }

    @Override
    public int failed() {
        return called().failed();
    }

    @Override
    public int failing(int k, int what) {
        return called().failing(k, what);
    }

    @Override
    public int least(int picture, int error) {
        return called().least(picture, error);
    }

    @Override
    public long sum(int coder) {
        return called().sum(coder);
    }

    @Override
    public long mean(int coder, boolean numerator) {
        return called().mean(coder, numerator);
    }

    @Override
    public int rank(int coder) {
        return called().rank(coder);
    }

    @Override
    public int hull(int coder, int picture) {
        return called().hull(coder, picture);
    }

    @Override
    public int onHull(int coder, int picture, int k, int what) {
        return called().onHull(coder, picture, k, what);
    }

    @Override
    public long slope(int coder, int picture, int k, boolean numerator) {
        return called().slope(coder, picture, k, numerator);
    }

    @Override
    public long signs(int one, int other, int what) {
        return called().signs(one, other, what);
    }

    @Override
    public int draws(int one, int other, long seed, int times) {
        return called().draws(one, other, seed, times);
    }

    @Override
    public int fill(long seed) {
        return called().fill(seed);
    }

    @Override
    public int text() {
        return called().text();
    }

    @Override
    public int charAt(int i) {
        return called().charAt(i);
    }

    @Override
    public int told(int what) {
        return called().told(what);
    }

    @Override
    public void clear() {
        called().clear();
    }
}
