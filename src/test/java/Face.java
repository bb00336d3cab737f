/** The calls of the document's face, so that the class and the model can be asked alike. */
interface Face {
    int coder();

    int picture();

    int point(int coder, int picture, int bytes, int error);

    int fails(int coder, int picture);

    int failed();

    int failing(int k, int what);

    int least(int picture, int error);

    long sum(int coder);

    long mean(int coder, boolean numerator);

    int rank(int coder);

    int hull(int coder, int picture);

    int onHull(int coder, int picture, int k, int what);

    long slope(int coder, int picture, int k, boolean numerator);

    long signs(int one, int other, int what);

    int draws(int one, int other, long seed, int times);

    int fill(long seed);

    int text();

    int charAt(int i);

    int told(int what);

    void clear();

    /** How many calls are left of which the document says what they answer. */
    int left();
}
