/** Promises 1 to 6: a new object, line, of, change, rule, ruled. */
public final class LinesTest {

    private static final int[] FIRST = {4, 4, 5, 5, 0, 0, 3, 3, 0, 600};
    private static final int[] LEAST = {1, 1, 0, 0, -9, -9, 0, 1, 0, 0};
    private static final int[] MOST = {99, 99, 10, 10, 9, 9, 9, 6, 10, 99999};

    public static void main(String[] args) {
        newObject();
        newLine();
        ofLine();
        ofLineAtEdges();
        changes();
        rules();
        Due.end();
    }

    private static void newObject() {
        GlassWords x = new GlassWords();
        for (int what = 0; what < 10; what++) {
            Due.due("ruled(" + what + ")", x.ruled(what), FIRST[what]);
        }
        for (int what = 0; what < 4; what++) {
            Due.due("now(" + what + ")", x.now(what), 0);
        }
        int[] counts = {0, 0, 0, 0, 0, 0, 1, 0};
        for (int what = 0; what < 8; what++) {
            Due.due("count(" + what + ")", x.count(what), counts[what]);
        }
        for (int which = -1; which < 7; which++) {
            Due.due("status(" + which + ")", x.status(which), 0);
        }
        for (int spot = 0; spot < 10; spot++) {
            Due.due("as(" + spot + ", 0)", x.as(spot, 0), Due.MISSING);
        }
        for (int s = 0; s < 4; s++) {
            Due.due("load(" + s + ")", x.load(s), Due.MISSING);
        }
        Due.due("undo()", x.undo(), Due.NONE);
        Due.due("tear()", x.tear(), 0);
        Due.due("wipe()", x.wipe(), 0);
        Due.due("trips()", x.trips(), Due.NONE);
    }

    private static void newLine() {
        GlassWords x = new GlassWords();
        Due.due("line(-1)", x.line(-1), Due.BEYOND);
        Due.due("line(7)", x.line(7), Due.BEYOND);
        for (int i = 0; i < 12; i++) {
            Due.due("line(" + i % 7 + ")", x.line(i % 7), i);
            Due.due("of(i, 0)", x.of(i, 0), i % 7);
            Due.due("of(i, 1)", x.of(i, 1), 5);
            Due.due("of(i, 2)", x.of(i, 2), 0);
        }
        Due.due("line(7) when full", x.line(7), Due.BEYOND);
        Due.due("line(0) when full", x.line(0), Due.FULL);
        Due.due("count(1)", x.count(1), 12);
    }

    private static void ofLine() {
        int[] takes = {42, 41, 51, 55, 87, 97, 48};
        int[] trips = {6, 6, 7, 14, 15, 7, 7};
        int[] seen = {1, 0, 3, 4, 1, 1, 5};
        for (int kind = 0; kind < 7; kind++) {
            GlassWords x = Due.withLines(kind);
            x.change(0, 1, 7);
            x.change(0, 2, 9);
            Due.rules(x, 6, 50, 5, 5, 0, 0, 2, 1);
            Due.due("of(0, 0)", x.of(0, 0), kind);
            Due.due("of(0, 1)", x.of(0, 1), 7);
            Due.due("of(0, 2)", x.of(0, 2), 9);
            Due.due("of(0, 3) of kind " + kind, x.of(0, 3), takes[kind]);
            Due.due("of(0, 4) of kind " + kind, x.of(0, 4), trips[kind]);
            Due.due("of(0, 5) of kind " + kind, x.of(0, 5), seen[kind]);
        }
    }

    private static void ofLineAtEdges() {
        int[] takes = {1, 1, 4, 5, 16, 26, 13};
        int[] trips = {0, 0, 1, 2, 3, 1, 1};
        int[] seen = {0, 0, 2, 3, 0, 0, 5};
        int[] mostSeen = {7, 6, 9, 10, 7, 7, 5};
        for (int kind = 0; kind < 7; kind++) {
            GlassWords x = Due.withLines(kind);
            x.change(0, 1, 1);
            x.change(0, 2, 3);
            Due.rules(x, 1, 50, 5, 5, 0, 0, 9, 6);
            Due.due("of(0, 3) at the edge, of kind " + kind, x.of(0, 3), takes[kind]);
            Due.due("of(0, 4) at the edge, of kind " + kind, x.of(0, 4), trips[kind]);
            Due.rules(x, 1, 50, 5, 5, 0, 0, 0, 1);
            Due.due("of(0, 5) at the edge, of kind " + kind, x.of(0, 5), seen[kind]);
            Due.rules(x, 1, 50, 5, 5, 0, 0, 9, 6);
            Due.due("of(0, 5) at the other edge, of kind " + kind, x.of(0, 5), mostSeen[kind]);
            Due.due("of(-1, 0)", x.of(-1, 0), Due.BEYOND);
            Due.due("of(1, 0)", x.of(1, 0), Due.BEYOND);
            Due.due("of(0, -1)", x.of(0, -1), Due.BEYOND);
            Due.due("of(0, 6)", x.of(0, 6), Due.BEYOND);
        }
    }

    private static void changes() {
        GlassWords x = Due.withLines(0, 3);
        Due.due("change(1, 0, 6)", x.change(1, 0, 6), 3);
        Due.due("change(1, 1, 20)", x.change(1, 1, 20), 5);
        Due.due("change(1, 2, 9)", x.change(1, 2, 9), 0);
        int[][] wrong = {{-1, 0, 0}, {2, 0, 0}, {0, -1, 1}, {0, 3, 1}, {1, 0, -1}, {1, 0, 7}, {1, 1, 0}, {1, 1, 21},
            {1, 2, -1}, {1, 2, 10}};
        for (int[] w : wrong) {
            Due.due("change(" + w[0] + ", " + w[1] + ", " + w[2] + ")", x.change(w[0], w[1], w[2]), Due.BEYOND);
        }
        Due.due("change(1, 0, 0)", x.change(1, 0, 0), 6);
        Due.due("change(1, 1, 1)", x.change(1, 1, 1), 20);
        Due.due("change(1, 2, 0)", x.change(1, 2, 0), 9);
        Due.due("of(0, 1)", x.of(0, 1), 5);
        Due.due("count(3)", x.count(3), 6);
    }

    private static void rules() {
        GlassWords x = new GlassWords();
        for (int what = 0; what < 10; what++) {
            Due.due("rule least", x.rule(what, LEAST[what]), FIRST[what]);
            Due.due("rule most", x.rule(what, MOST[what]), LEAST[what]);
            Due.due("rule below", x.rule(what, LEAST[what] - 1), Due.BEYOND);
            Due.due("rule above", x.rule(what, MOST[what] + 1), Due.BEYOND);
            Due.due("ruled(" + what + ")", x.ruled(what), MOST[what]);
        }
        Due.due("rule(-1, 1)", x.rule(-1, 1), Due.BEYOND);
        Due.due("rule(10, 1)", x.rule(10, 1), Due.BEYOND);
        Due.due("ruled(-1)", x.ruled(-1), Due.BEYOND);
        Due.due("ruled(10)", x.ruled(10), Due.BEYOND);
        Due.due("status(0)", x.status(0), 24);
    }
}
