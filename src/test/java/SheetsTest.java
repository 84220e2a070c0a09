/** Promises 37 to 43: hold, as, sheet, write, copy, load, judge. */
public final class SheetsTest {

    public static void main(String[] args) {
        holds();
        kinds();
        sheets();
        writes();
        copies();
        copiesNothing();
        loads();
        judges();
        Due.end();
    }

    private static void holds() {
        GlassWords x = Due.withLines(0, 3);
        Due.due("hold(0, 1)", x.hold(0, 1), 1);
        Due.due("hold(9, 0)", x.hold(9, 0), 1);
        Due.due("count(7)", x.count(7), 2);
        Due.due("as(0, 0)", x.as(0, 0), 1);
        Due.due("as(9, 0)", x.as(9, 0), 0);
        int[][] wrong = {{-1, 0}, {10, 0}, {0, 2}, {0, -2}};
        for (int[] w : wrong) {
            Due.due("hold(" + w[0] + ", " + w[1] + ")", x.hold(w[0], w[1]), Due.BEYOND);
        }
        Due.due("as(0, 0)", x.as(0, 0), 1);
        Due.due("hold(0, -1)", x.hold(0, -1), 1);
        Due.due("as(0, 0)", x.as(0, 0), Due.MISSING);
        Due.due("count(7)", x.count(7), 1);
    }

    /** Row by row the kind of the line, with a 1 for each kind that it counts as. */
    private static final int[][] COUNTS_AS = {{1, 0, 0, 0, 0, 0, 0}, {1, 1, 0, 0, 0, 0, 0}, {1, 0, 1, 0, 0, 0, 0},
        {1, 0, 1, 1, 0, 0, 0}, {1, 0, 0, 0, 1, 0, 0}, {1, 0, 0, 0, 1, 1, 0}, {1, 0, 0, 0, 1, 1, 1}};

    private static void kinds() {
        GlassWords x = Due.withLines(0, 0);
        x.hold(4, 1);
        for (int kind = 0; kind < 7; kind++) {
            x.change(1, 0, kind);
            for (int as = 0; as < 7; as++) {
                Due.due("as(4, " + as + ") of kind " + kind, x.as(4, as), COUNTS_AS[kind][as] == 1 ? 1 : Due.KIND);
            }
        }
        Due.due("as(4, -1)", x.as(4, -1), Due.BEYOND);
        Due.due("as(4, 7)", x.as(4, 7), Due.BEYOND);
        Due.due("as(-1, 0)", x.as(-1, 0), Due.BEYOND);
        Due.due("as(10, 0)", x.as(10, 0), Due.BEYOND);
        Due.due("as(3, 7)", x.as(3, 7), Due.BEYOND);
        Due.due("as(3, 6)", x.as(3, 6), Due.MISSING);
    }

    private static void sheets() {
        GlassWords x = new GlassWords();
        for (int bits = -1; bits <= 64; bits++) {
            boolean fine = bits == 0 || bits == 8 || bits == 16 || bits == 32;
            Due.due("sheet(3, " + bits + ", 40)", x.sheet(3, bits, 40), fine ? bits == 0 ? 0 : 40 : Due.BEYOND);
        }
        Due.due("sheet(-1, 8, -1)", x.sheet(-1, 8, -1), Due.BEYOND);
        Due.due("sheet(4, 8, 1)", x.sheet(4, 8, 1), Due.BEYOND);
        Due.due("sheet(0, 7, -1)", x.sheet(0, 7, -1), Due.BEYOND);
        Due.due("sheet(3, 8, -1)", x.sheet(3, 8, -1), Due.SIZE);
        Due.due("sheet(3, 0, -1)", x.sheet(3, 0, -1), Due.SIZE);
        Due.due("sheet(3, 8, 41)", x.sheet(3, 8, 41), Due.BEYOND);
        Due.due("sheet(3, 0, 41)", x.sheet(3, 0, 41), Due.BEYOND);
        Due.due("write(3, 39, 1) on the old sheet", x.write(3, 39, 1), 1);
        Due.due("sheet(3, 0, 7)", x.sheet(3, 0, 7), 0);
        Due.due("write(3, 0, 1)", x.write(3, 0, 1), Due.MISSING);
        Due.due("sheet(3, 8, 0)", x.sheet(3, 8, 0), 0);
        Due.due("write(3, 0, 1)", x.write(3, 0, 1), Due.BEYOND);
        Due.due("status(6)", x.status(6), 2);
    }

    /** The line takes 20, so that the reader tells whether that is the number. */
    private static void writes() {
        int[][] rows = {{8, 0x7fffff14}, {16, 0x7fff0014}, {32, 20}};
        for (int[] row : rows) {
            GlassWords x = Due.withLines(0);
            Due.due("sheet(0, bits, 1)", x.sheet(0, row[0], 1), 1);
            Due.due("judge(0), all being 0 at first", x.judge(0), 1);
            Due.due("write(0, 0, v)", x.write(0, 0, row[1]), 1);
            Due.due("judge(0) of the lowest bits", x.judge(0), 0);
            Due.due("write(0, 0, 19)", x.write(0, 0, 19), 1);
            Due.due("judge(0) of another number", x.judge(0), 1);
            Due.due("write(0, -1, 1)", x.write(0, -1, 1), Due.BEYOND);
            Due.due("write(0, 1, 1)", x.write(0, 1, 1), Due.BEYOND);
            Due.due("write(-1, 0, 1)", x.write(-1, 0, 1), Due.BEYOND);
            Due.due("write(4, 0, 1)", x.write(4, 0, 1), Due.BEYOND);
            Due.due("write(1, -1, 1)", x.write(1, -1, 1), Due.MISSING);
        }
        signs();
        clearsAnew();
    }

    /** CLOCK would be 160 and 41580, more than 8 and 16 bits tell with their sign. */
    private static void signs() {
        GlassWords x = Due.withWords(20);
        x.rule(0, 8);
        Due.sheetOf(x, 0, 8, 160);
        Due.due("judge(0)", x.judge(0), 1);
        Due.sheetOf(x, 0, 16, 160);
        Due.due("judge(0)", x.judge(0), 0);
        x.rule(0, 99);
        x.rule(2, 0);
        for (int i = 0; i < 20; i++) {
            x.read(1);
            x.go(0);
        }
        Due.due("now(1)", x.now(1), 39600);
        Due.sheetOf(x, 0, 16, 41580);
        Due.due("judge(0)", x.judge(0), 1);
        Due.sheetOf(x, 0, 32, 41580);
        Due.due("judge(0)", x.judge(0), 0);
    }

    private static void clearsAnew() {
        GlassWords x = Due.withWords(5, 5);
        Due.sheetOf(x, 0, 8, 7, 8);
        Due.due("sheet(0, 8, 2)", x.sheet(0, 8, 2), 2);
        Due.due("load(0)", x.load(0), 0);
        Due.sheetOf(x, 0, 8, 7, 8);
        x.sheet(0, 0, 0);
        Due.due("sheet(0, 16, 2)", x.sheet(0, 16, 2), 2);
        Due.due("load(0)", x.load(0), 0);
    }

    private static void wordsAre(GlassWords x, int... words) {
        for (int i = 0; i < words.length; i++) {
            Due.due("of(" + i + ", 1)", x.of(i, 1), words[i]);
        }
    }

    private static void copies() {
        GlassWords x = Due.withWords(5, 5, 5, 5, 5);
        Due.sheetOf(x, 0, 8, 1, 2, 3, 4, 5);
        Due.sheetOf(x, 1, 8, 11, 12, 13, 14, 15);
        Due.due("copy(0, 1, 1, 3, 2)", x.copy(0, 1, 1, 3, 2), 2);
        x.load(1);
        wordsAre(x, 11, 12, 13, 2, 3);
        Due.due("copy onward in itself", x.copy(0, 0, 0, 1, 4), 4);
        x.load(0);
        wordsAre(x, 1, 1, 2, 3, 4);
        Due.sheetOf(x, 0, 8, 1, 2, 3, 4, 5);
        Due.due("copy backward in itself", x.copy(0, 1, 0, 0, 4), 4);
        x.load(0);
        wordsAre(x, 2, 3, 4, 5, 5);
        Due.due("copy of none at the end", x.copy(0, 5, 1, 5, 0), 0);
    }

    private static void copiesNothing() {
        GlassWords x = new GlassWords();
        Due.sheetOf(x, 0, 8, 1, 2, 3);
        Due.sheetOf(x, 1, 8, 1, 2);
        Due.sheetOf(x, 2, 16, 1, 2);
        int most = Integer.MAX_VALUE;
        int[][] calls = {{-1, 0, 0, 0, 1, Due.BEYOND}, {4, 0, 0, 0, 1, Due.BEYOND}, {0, 0, -1, 0, 1, Due.BEYOND},
            {3, 0, 4, 0, 1, Due.BEYOND}, {3, -1, 0, 0, 1, Due.MISSING}, {0, -1, 3, 0, 1, Due.MISSING},
            {0, -1, 2, 0, 1, Due.KIND}, {2, 0, 0, 0, 99, Due.KIND}, {0, -1, 1, 0, 1, Due.BEYOND},
            {0, 0, 1, -1, 1, Due.BEYOND}, {0, 0, 1, 0, -1, Due.BEYOND}, {0, 0, 1, 0, 3, Due.BEYOND},
            {1, 0, 0, 0, 3, Due.BEYOND}, {0, 3, 1, 0, 1, Due.BEYOND}, {0, 4, 1, 0, 0, Due.BEYOND},
            {0, 0, 1, 3, 0, Due.BEYOND}, {0, most, 1, 0, most, Due.BEYOND}, {0, 0, 1, most, 1, Due.BEYOND},
            {0, 1, 1, 1, most, Due.BEYOND}, {0, 2, 1, 1, 1, 1}};
        for (int[] c : calls) {
            Due.due("copy(" + c[0] + ", " + c[1] + ", " + c[2] + ", " + c[3] + ", " + c[4] + ")",
                x.copy(c[0], c[1], c[2], c[3], c[4]), c[5]);
        }
    }

    private static void loads() {
        GlassWords x = Due.withWords(5, 5, 5);
        Due.sheetOf(x, 0, 8, 1, 20, 7, 8);
        Due.due("load(0)", x.load(0), 3);
        wordsAre(x, 1, 20, 7);
        Due.sheetOf(x, 0, 8, 2, 21, 9);
        Due.due("load(0)", x.load(0), 1);
        wordsAre(x, 2, 20, 7);
        Due.sheetOf(x, 0, 8, 3, 4, 0);
        Due.due("load(0)", x.load(0), 2);
        wordsAre(x, 3, 4, 7);
        Due.sheetOf(x, 0, 8, 255);
        Due.due("load(0)", x.load(0), 0);
        Due.sheetOf(x, 0, 8);
        Due.due("load(0)", x.load(0), 0);
        x.go(2);
        Due.sheetOf(x, 0, 8, 6);
        Due.due("load(0) not from AT on", x.load(0), 1);
        wordsAre(x, 6, 4, 7);
        Due.due("load(1)", x.load(1), Due.MISSING);
        Due.due("load(-1)", x.load(-1), Due.BEYOND);
        Due.due("load(4)", x.load(4), Due.BEYOND);
    }

    /** Paces go 4, 8, 12: the lines take 20, 16, 12. */
    private static void judges() {
        GlassWords x = Due.withWords(5, 2, 1);
        Due.rules(x, 4, 4, 0, 0, 4, 0);
        int[][] rows = {{}, {20}, {20, 36}, {20, 36, 48}, {21, 36}, {20, 37}, {20, 36, 49}, {20, 36, 48, 48}, {19, 0, 0, 0}};
        int[] answers = {0, 0, 0, 0, 1, 2, 3, 4, 1};
        for (int i = 0; i < rows.length; i++) {
            Due.sheetOf(x, 2, 8, rows[i]);
            Due.due("judge(2) of row " + i, x.judge(2), answers[i]);
        }
        x.read(1);
        Due.sheetOf(x, 2, 8, 36, 48);
        Due.due("judge(2) from AT on", x.judge(2), 0);
        x.go(3);
        Due.due("judge(2) at the end", x.judge(2), 1);
        Due.due("now(1)", x.now(1), 20);
        Due.due("ruled(0)", x.ruled(0), 8);
        Due.due("judge(1)", x.judge(1), Due.MISSING);
        Due.due("judge(-1)", x.judge(-1), Due.BEYOND);
        Due.due("judge(4)", x.judge(4), Due.BEYOND);
    }
}
