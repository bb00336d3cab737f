/** Promises 18 and 19: text and charAt. */
final class TextTest {
    public static void main(String[] args) {
        lines();
        longest();
        lasting();
        Check.end();
    }

    private static void textIs(Face x, String due) {
        Check.is("length of the text", x.text(), due.length());
        Check.same("text", Check.kept(x), due);
        Check.index("behind the text", () -> x.charAt(due.length()));
        Check.index("before the text", () -> x.charAt(-1));
        Check.index("far behind", () -> x.charAt(Integer.MAX_VALUE));
        Check.index("far before", () -> x.charAt(Integer.MIN_VALUE));
    }

    private static void lines() {
        textIs(new Table(), "");
        textIs(Check.tables(0, 3), "");
        textIs(Check.tables(2, 0), "0 -\n1 -\n");
        Face x = Check.tables(4, 2);
        textIs(x, "0 -\n1 -\n2 -\n3 -\n");
        x.point(0, 0, 10, 0);
        x.point(2, 0, 9, 0);
        x.point(2, 1, 10, 0);
        x.fails(1, 0);
        x.point(3, 1, 10, 0);
        textIs(x, "0 10 5\n1 -\n2 19 2\n3 10 5\n");
        x.fails(2, 0);
        textIs(x, "0 10 4\n1 -\n2 10 4\n3 10 4\n");
    }

    private static void longest() {
        Face x = Check.tables(8, 24);
        StringBuilder due = new StringBuilder();
        for (int coder = 0; coder < 8; coder++) {
            for (int picture = 0; picture < 24; picture++) {
                x.point(coder, picture, 1000000000 - (picture == 0 ? coder : 0), 0);
            }
            due.append(coder).append(' ').append(24000000000L - coder).append(' ');
            due.append(16 - 2 * coder).append('\n');
        }
        textIs(x, due.toString());
        int[] edges = {1, 9, 10, 99, 100, 999999999, 1000000000};
        for (int bytes : edges) {
            Face y = Check.tables(1, 1);
            y.point(0, 0, bytes, 0);
            textIs(y, "0 " + bytes + " 2\n");
        }
    }

    private static void lasting() {
        Face x = Check.tables(2, 1);
        x.point(0, 0, 12345, 0);
        Check.index("no text yet", () -> x.charAt(0));
        x.text();
        x.point(1, 0, 1, 0);
        x.coder();
        Check.same("what text() made last", Check.kept(x), "0 12345 2\n1 -\n");
        x.fails(0, 0);
        textIs(x, "0 -\n1 1 2\n2 -\n");
        x.clear();
        Check.index("no text", () -> x.charAt(0));
        textIs(x, "");
    }
}
