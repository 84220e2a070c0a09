/** Promises 30 to 33: stays, evening, ahead, seed. The rests of the draws were worked out by another program. */
public final class EveningsTest {

    public static void main(String[] args) {
        staying();
        evenings();
        eveningsInParts();
        asides();
        eveningFindings();
        aheads();
        seeds();
        Due.end();
    }

    private static void staying() {
        GlassWords x = new GlassWords();
        long[][] odds = {{0, 15, 1, 1}, {1, 15, 205891132094649L, 1000000000000000L}, {4, 15, 14348907L, 30517578125L},
            {3, 3, 343, 1000}, {5, 3, 1, 8}, {8, 2, 1, 25}, {10, 0, 1, 1}, {10, 1, 0, 1}, {10, 15, 0, 1}, {7, 0, 1, 1}};
        for (long[] o : odds) {
            x.rule(8, (int) o[0]);
            Due.due("stays(" + o[1] + ", 0) by " + o[0], x.stays((int) o[1], 0), o[2]);
            Due.due("stays(" + o[1] + ", 1) by " + o[0], x.stays((int) o[1], 1), o[3]);
        }
        Due.due("stays(-1, 0)", x.stays(-1, 0), Due.BEYOND);
        Due.due("stays(16, 0)", x.stays(16, 0), Due.BEYOND);
        Due.due("stays(0, -1)", x.stays(0, -1), Due.BEYOND);
        Due.due("stays(0, 2)", x.stays(0, 2), Due.BEYOND);
        Due.due("status(0)", x.status(0), 4);
    }

    private static GlassWords fiveLines() {
        GlassWords x = Due.withWords(5, 5, 5, 5, 5);
        x.rule(8, 5);
        return x;
    }

    private static void stands(GlassWords x, int at, int clock, int z) {
        Due.due("now(0)", x.now(0), at);
        Due.due("now(1)", x.now(1), clock);
        Due.due("count(6)", x.count(6), z);
    }

    /** By z 1: 4 (leaves) 0 0, 3 (leaves) 7 0, 0 (leaves) 6 1, 9 (stays). */
    private static void evenings() {
        GlassWords x = fiveLines();
        Due.due("evening(12)", x.evening(12), 3);
        stands(x, 5, 144, 267834847);
        Due.due("now(3)", x.now(3), 12);
        Due.due("evening(1) at the end", x.evening(1), Due.STATE);
        GlassWords y = fiveLines();
        y.rule(8, 4);
        Due.due("evening(1), his rest being as much as LEAVES", y.evening(1), 0);
        stands(y, 1, 20, 1103527590);
        GlassWords never = fiveLines();
        never.rule(8, 0);
        Due.due("evening(5)", never.evening(5), 0);
        Due.due("now(1)", never.now(1), 100);
    }

    private static void eveningsInParts() {
        GlassWords x = fiveLines();
        Due.due("evening(1)", x.evening(1), 1);
        stands(x, 1, 24, 662824084);
        Due.due("evening(2)", x.evening(2), 2);
        stands(x, 4, 124, -1084965762);
        Due.due("evening(2)", x.evening(2), 0);
        stands(x, 5, 144, 267834847);
    }

    /** By z 5: leaves, 2, 1; his own words go by R behind the turn. */
    private static void asides() {
        GlassWords x = Due.withWords(5);
        Due.rules(x, 4, 4, 0, 0, 3, 0);
        x.rule(8, 10);
        Due.due("seed(5)", x.seed(5), 1);
        Due.due("evening(1)", x.evening(1), 1);
        stands(x, 1, 41, 695785320);
        Due.due("ruled(0)", x.ruled(0), 7);
    }

    private static void eveningFindings() {
        GlassWords x = new GlassWords();
        Due.due("evening(0)", x.evening(0), Due.BEYOND);
        Due.due("evening(13)", x.evening(13), Due.BEYOND);
        Due.due("evening(1)", x.evening(1), Due.STATE);
        Due.due("count(6)", x.count(6), 1);
        lateEvenings();
    }

    private static void lateEvenings() {
        GlassWords x = Due.late(405);
        for (int i = 0; i < 5; i++) {
            x.change(i, 0, 0);
        }
        Due.due("read(5)", x.read(5), 9900000);
        x.rule(0, 1);
        x.change(5, 0, 0);
        x.change(5, 1, 1);
        Due.due("evening(1) at 9900000", x.evening(1), 0);
        Due.due("now(1)", x.now(1), 9900001);
        Due.due("evening(1) above it", x.evening(1), Due.STATE);
        Due.due("evening(13) above it", x.evening(13), Due.BEYOND);
        Due.due("now(0)", x.now(0), 6);
    }

    private static void aheads() {
        GlassWords x = fiveLines();
        int[] left = {0, 3, 5, 6};
        for (int n = 0; n < 4; n++) {
            Due.due("ahead(" + n + ")", x.ahead(n), left[n]);
        }
        stands(x, 0, 0, 1);
        Due.due("ruled(0)", x.ruled(0), 4);
        Due.due("ahead(-1)", x.ahead(-1), Due.BEYOND);
        Due.due("ahead(21)", x.ahead(21), Due.BEYOND);
        x.rule(8, 10);
        x.go(4);
        Due.due("ahead(20) of one line", x.ahead(20), 20);
        x.go(5);
        Due.due("ahead(20) at the end", x.ahead(20), 0);
    }

    private static void seeds() {
        GlassWords x = new GlassWords();
        Due.due("seed(-1000001)", x.seed(-1000001), 1);
        Due.due("seed(7)", x.seed(7), -1000001);
        Due.due("seed(-1000007)", x.seed(-1000007), 7);
        Due.due("count(6)", x.count(6), -1000007);
        Due.due("status(-1)", x.status(-1), 0);
        Due.due("seed", x.seed(Integer.MIN_VALUE), -1000007);
        Due.due("seed", x.seed(0), Integer.MIN_VALUE);
    }
}
