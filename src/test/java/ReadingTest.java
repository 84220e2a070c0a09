/** Promises 7 to 11: read, go, turn, now, rest. */
public final class ReadingTest {

    public static void main(String[] args) {
        reads();
        readsNothingBeyond();
        goes();
        turns();
        rests();
        clockEnds();
        Due.end();
    }

    /** Paces go 5/9, 7/6, 8/5, 8/5: the three lines take 25, 17, 13. */
    private static GlassWords threeLines() {
        GlassWords x = Due.withLines(0, 2, 4);
        Due.rules(x, 5, 9, 4, 5, 1, -1);
        x.change(1, 1, 2);
        x.change(1, 2, 3);
        x.change(2, 1, 1);
        x.change(2, 2, 1);
        return x;
    }

    private static void nowIs(GlassWords x, int at, int clock, int tripped, int looked) {
        Due.due("now(0)", x.now(0), at);
        Due.due("now(1)", x.now(1), clock);
        Due.due("now(2)", x.now(2), tripped);
        Due.due("now(3)", x.now(3), looked);
    }

    private static void reads() {
        GlassWords x = threeLines();
        Due.due("read(1)", x.read(1), 25);
        nowIs(x, 1, 25, 0, 3);
        Due.due("ruled(0)", x.ruled(0), 7);
        Due.due("ruled(1)", x.ruled(1), 6);
        Due.due("read(2)", x.read(2), 55);
        nowIs(x, 3, 55, 2, 11);
        Due.due("ruled(0)", x.ruled(0), 8);
        Due.due("ruled(1)", x.ruled(1), 5);
        GlassWords y = threeLines();
        Due.due("read(3)", y.read(3), 55);
        nowIs(y, 3, 55, 2, 11);
    }

    private static void readsNothingBeyond() {
        GlassWords x = threeLines();
        Due.due("read(0)", x.read(0), Due.BEYOND);
        Due.due("read(13)", x.read(13), Due.BEYOND);
        Due.due("read(-1)", x.read(-1), Due.BEYOND);
        Due.due("read(4)", x.read(4), Due.STATE);
        Due.due("read(12)", x.read(12), Due.STATE);
        nowIs(x, 0, 0, 0, 0);
        Due.due("ruled(0)", x.ruled(0), 5);
        x.read(3);
        Due.due("read(1)", x.read(1), Due.STATE);
        Due.due("now(4)", x.now(4), Due.BEYOND);
        Due.due("now(-1)", x.now(-1), Due.BEYOND);
        x.line(0);
        Due.due("read(1) of a line that came behind", x.read(1), 95);
    }

    private static void clockEnds() {
        GlassWords x = Due.late(409);
        Due.due("now(1)", x.now(1), 9987780);
        Due.due("read(12)", x.read(12), Due.STATE);
        Due.due("read(6)", x.read(6), 9999990);
        Due.due("read(1)", x.read(1), Due.STATE);
        Due.due("now(0)", x.now(0), 6);
        x.rule(0, 9);
        x.change(6, 0, 0);
        x.change(6, 1, 1);
        Due.due("read(1)", x.read(1), 9999999);
        x.rule(0, 1);
        x.go(6);
        Due.due("read(1)", x.read(1), Due.STATE);
        Due.due("now(1)", x.now(1), 9999999);
    }

    private static void goes() {
        GlassWords x = threeLines();
        Due.due("go(2)", x.go(2), 0);
        Due.due("go(3)", x.go(3), 2);
        Due.due("go(4)", x.go(4), Due.BEYOND);
        Due.due("go(-1)", x.go(-1), Due.BEYOND);
        Due.due("go(2)", x.go(2), 3);
        Due.due("read(1)", x.read(1), 10);
        nowIs(x, 3, 10, 1, 3);
    }

    private static void turns() {
        GlassWords x = threeLines();
        Due.due("turn()", x.turn(), 7);
        Due.due("ruled(1)", x.ruled(1), 6);
        Due.due("turn()", x.turn(), 8);
        Due.due("ruled(1)", x.ruled(1), 5);
        Due.due("turn()", x.turn(), 8);
        nowIs(x, 0, 0, 0, 0);
        Due.rules(x, 95, 5, 0, 0, 9, -9);
        Due.due("turn() held at most", x.turn(), 99);
        Due.due("ruled(1) held at least", x.ruled(1), 1);
    }

    private static void rests() {
        GlassWords x = threeLines();
        int[] whole = {55, 2, 11, 8, 5};
        for (int what = 0; what < 5; what++) {
            Due.due("rest(" + what + ")", x.rest(what), whole[what]);
        }
        nowIs(x, 0, 0, 0, 0);
        Due.due("ruled(0)", x.ruled(0), 5);
        x.go(2);
        int[] last = {10, 1, 3, 7, 6};
        for (int what = 0; what < 5; what++) {
            Due.due("rest(" + what + ") of the last", x.rest(what), last[what]);
        }
        x.go(3);
        int[] none = {0, 0, 0, 5, 9};
        for (int what = 0; what < 5; what++) {
            Due.due("rest(" + what + ") at the end", x.rest(what), none[what]);
        }
        Due.due("rest(-1)", x.rest(-1), Due.BEYOND);
        Due.due("rest(5)", x.rest(5), Due.BEYOND);
    }
}
