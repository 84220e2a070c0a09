/** Promises 18 to 24: grid, worst, trips, kindFor, ease, fit, kept. */
public final class GridsTest {

    public static void main(String[] args) {
        grids();
        mostTripping();
        kinds();
        eases();
        easesNothing();
        fits();
        fitsByTurns();
        Due.end();
    }

    private static void grids() {
        GlassWords x = Due.withLines(0);
        Due.due("grid() of an easy line", x.grid(), 10);
        Due.due("worst() of an easy line", x.worst(), 0);
        x.change(0, 2, 9);
        Due.due("grid()", x.grid(), 18);
        Due.due("worst()", x.worst(), 3);
        Due.due("ruled(6)", x.ruled(6), 3);
        Due.due("ruled(7)", x.ruled(7), 3);
        x.go(1);
        Due.due("grid() at the end", x.grid(), 10);
        Due.due("worst() at the end", x.worst(), 0);
        x.line(6);
        Due.due("grid() of a blank", x.grid(), 10);
        Due.due("worst() of a blank", x.worst(), 5);
    }

    private static void mostTripping() {
        GlassWords x = Due.withLines(0, 2, 3, 3, 4);
        Due.due("trips()", x.trips(), 2);
        x.change(4, 2, 2);
        Due.due("trips() of as many", x.trips(), 2);
        x.change(4, 2, 3);
        Due.due("trips()", x.trips(), 4);
        x.go(5);
        Due.due("trips() from the end", x.trips(), 4);
        GlassWords y = Due.withLines(0, 1);
        Due.due("trips() of none that trips", y.trips(), 0);
        Due.due("trips()", new GlassWords().trips(), Due.NONE);
    }

    private static void kinds() {
        GlassWords x = Due.withWords(5, 2, 1);
        Due.due("kindFor(0)", x.kindFor(0), 6);
        Due.due("kindFor(1)", x.kindFor(1), 1);
        x.rule(0, 1);
        x.rule(1, 1);
        Due.due("kindFor(2) of several", x.kindFor(2), 0);
        x.go(1);
        Due.due("kindFor(0) ahead of AT", x.kindFor(0), 0);
        Due.due("kindFor(-1)", x.kindFor(-1), Due.BEYOND);
        Due.due("kindFor(3)", x.kindFor(3), Due.BEYOND);
        Due.due("of(1, 0)", x.of(1, 0), 0);
        Due.due("kindFor", new GlassWords().kindFor(0), Due.BEYOND);
    }

    /** They trip him by 12, 6, 4 and 1; each could be eased by 12, 4, 3 and 1. */
    private static GlassWords hardLines() {
        GlassWords x = Due.withLines(4, 3, 2, 0);
        x.change(0, 2, 9);
        x.change(1, 2, 8);
        x.change(2, 2, 9);
        x.change(3, 2, 7);
        return x;
    }

    private static void eases() {
        GlassWords x = hardLines();
        Due.due("rest(1)", x.rest(1), 23);
        int[][] sets = {{999, 0}, {23, 0}, {22, 1}, {11, 1}, {10, 3}, {7, 3}, {6, 7}, {4, 7}, {3, 15}, {2, Due.NONE},
            {0, Due.NONE}};
        for (int[] set : sets) {
            Due.due("ease(" + set[0] + ")", x.ease(set[0]), set[1]);
        }
        x.go(1);
        int[][] later = {{11, 0}, {10, 2}, {7, 2}, {6, 6}, {4, 6}, {3, 14}, {2, Due.NONE}};
        for (int[] set : later) {
            Due.due("ease(" + set[0] + ") from line 1", x.ease(set[0]), set[1]);
        }
        x.change(1, 2, 0);
        Due.due("ease(6), line 1 being easy", x.ease(6), 4);
        Due.due("ease(3), line 1 being easy", x.ease(3), 12);
        Due.due("of(2, 2)", x.of(2, 2), 9);
    }

    private static void easesNothing() {
        GlassWords x = hardLines();
        Due.due("ease(-1)", x.ease(-1), Due.BEYOND);
        Due.due("ease(1000)", x.ease(1000), Due.BEYOND);
        x.go(4);
        Due.due("ease(0) at the end", x.ease(0), 0);
    }

    private static void fits() {
        GlassWords x = Due.withWords(5, 8, 3);
        int[][] hours = {{64, 0, 16}, {63, 4, 13}, {52, 4, 13}, {51, 1, 11}, {44, 1, 11}, {43, 2, 8}, {32, 2, 8},
            {31, 6, 5}, {12, 3, 3}, {11, 7, 0}, {0, 7, 0}};
        for (int[] hour : hours) {
            x.rule(9, hour[0]);
            Due.due("fit() by " + hour[0], x.fit(), hour[1]);
            Due.due("kept() by " + hour[0], x.kept(), hour[2]);
        }
        x.go(1);
        x.rule(9, 20);
        Due.due("fit() from line 1", x.fit(), 2);
        Due.due("kept() from line 1", x.kept(), 3);
        x.go(3);
        Due.due("fit() at the end", x.fit(), 0);
        Due.due("kept() at the end", x.kept(), 0);
    }

    /** R is 4, 8, 12 behind what is read alone: without the first line it takes 32 and 24. */
    private static void fitsByTurns() {
        GlassWords x = Due.withWords(5, 8, 3);
        Due.rules(x, 4, 4, 0, 0, 4, 0);
        x.rule(9, 56);
        Due.due("fit() by turns", x.fit(), 1);
        Due.due("kept() by turns", x.kept(), 11);
        x.rule(9, 55);
        Due.due("fit() by turns", x.fit(), 2);
        Due.due("kept() by turns", x.kept(), 8);
        x.rule(9, 120);
        Due.due("fit() of all", x.fit(), 0);
        Due.due("ruled(0)", x.ruled(0), 4);
    }
}
