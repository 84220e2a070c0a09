/** Promises 25 and 26: jump, jumped. */
public final class JumpsTest {

    public static void main(String[] args) {
        dearLines();
        cheapLines();
        readsAheadOfJumps();
        beyond();
        alone();
        Due.end();
    }

    private static void way(GlassWords x, int from, int to, int tenths, int set) {
        Due.due("jump(" + from + ", " + to + ")", x.jump(from, to), tenths);
        Due.due("jumped(" + from + ", " + to + ")", x.jumped(from, to), set);
    }

    /** Each line takes 20. From 0 to 6 a jump, a line, a jump: the shorter jump first. */
    private static void dearLines() {
        GlassWords x = Due.withWords(5, 5, 5, 5, 5, 5);
        x.rule(4, 9);
        way(x, 0, 1, 20, 1);
        way(x, 0, 2, 10, 0);
        way(x, 0, 3, 13, 0);
        way(x, 0, 4, 16, 0);
        way(x, 0, 5, 36, 1);
        way(x, 0, 6, 43, 4);
        way(x, 5, 6, 20, 32);
        way(x, 3, 5, 10, 0);
        way(x, 1, 6, 36, 2);
        x.go(6);
        way(x, 0, 6, 43, 4);
    }

    private static void cheapLines() {
        GlassWords x = Due.withWords(1, 1, 1, 1, 1, 1);
        x.rule(0, 1);
        way(x, 0, 6, 6, 63);
        way(x, 2, 4, 2, 12);
        x.change(4, 1, 20);
        way(x, 0, 6, 14, 15);
        x.change(4, 0, 5);
        way(x, 4, 5, 30, 16);
        way(x, 3, 6, 11, 8);
    }

    private static void alone() {
        Due.due("jumped(0, 2), asked alone", Due.withWords(5, 5).jumped(0, 2), 0);
        Due.due("jumped(0, 1), asked alone", Due.withWords(5, 5).jumped(0, 1), 1);
        GlassWords x = Due.withWords(20, 20, 20, 20, 20, 20, 20, 20, 20, 20, 20, 1);
        // Jumps over seven lines in all, the shortest first: 0 to 2, 3 to 7, 8 to 12, with a line of 80 between.
        way(x, 0, 12, 10 + 80 + 16 + 80 + 16, 1 << 2 | 1 << 7);
    }

    private static void readsAheadOfJumps() {
        GlassWords x = Due.withWords(5, 5, 5);
        x.rule(0, 1);
        way(x, 0, 2, 10, 3);
        way(x, 0, 3, 13, 0);
        x.change(2, 1, 3);
        way(x, 0, 3, 13, 7);
    }

    private static void beyond() {
        GlassWords x = Due.withWords(5, 5);
        int[][] wrong = {{-1, 1}, {2, 3}, {2, 2}, {0, 0}, {1, 0}, {0, 3}, {0, -1}, {1, 1}, {3, 4}};
        for (int[] w : wrong) {
            Due.due("jump(" + w[0] + ", " + w[1] + ")", x.jump(w[0], w[1]), Due.BEYOND);
            Due.due("jumped(" + w[0] + ", " + w[1] + ")", x.jumped(w[0], w[1]), Due.BEYOND);
        }
        Due.due("status(0)", x.status(0), 18);
    }
}
