/** Promises 44 to 48: image, undo, tear, count, status. */
public final class ImagesTest {

    public static void main(String[] args) {
        keepsAll();
        leavesTapeAndSheets();
        keepsTheLatest();
        counts();
        states();
        Due.end();
    }

    private static GlassWords busy() {
        GlassWords x = Due.withLines(2, 4);
        Due.rules(x, 5, 9, 4, 5, 1, -1, 2, 1, 3, 77);
        x.change(0, 1, 7);
        x.change(1, 2, 9);
        x.read(1);
        x.seed(99);
        x.hold(3, 1);
        return x;
    }

    /** All that can be asked, as one row. */
    private static int[] all(GlassWords x) {
        int[] row = new int[40];
        int n = 0;
        for (int what = 0; what < 10; what++) {
            row[n++] = x.ruled(what);
        }
        for (int what = 0; what < 4; what++) {
            row[n++] = x.now(what);
        }
        for (int line = 0; line < 3; line++) {
            for (int what = 0; what < 3; what++) {
                row[n++] = x.of(line, what);
            }
        }
        for (int spot = 0; spot < 10; spot++) {
            row[n++] = x.as(spot, 0);
        }
        row[n++] = x.count(6);
        row[n++] = x.count(1);
        return row;
    }

    private static void same(int[] got, int[] want) {
        for (int i = 0; i < want.length; i++) {
            Due.due("place " + i + " of all", got[i], want[i]);
        }
    }

    private static void change(GlassWords x) {
        Due.rules(x, 6, 8, 5, 6, 2, -2, 3, 2, 4, 78);
        x.change(0, 0, 6);
        x.change(0, 1, 9);
        x.change(1, 2, 3);
        x.read(1);
        x.line(5);
        x.seed(7);
        x.hold(3, 0);
        x.hold(0, 2);
    }

    private static void keepsAll() {
        GlassWords x = busy();
        int[] before = all(x);
        Due.due("image()", x.image(), 1);
        change(x);
        Due.isTrue("it changed", all(x)[13] != before[13]);
        Due.due("undo()", x.undo(), 35);
        same(all(x), before);
        change(x);
        Due.due("undo() once more", x.undo(), 35);
        same(all(x), before);
        Due.due("tear()", x.tear(), 1);
        Due.due("tear()", x.tear(), 0);
        Due.due("undo()", x.undo(), Due.NONE);
        same(all(x), before);
    }

    private static void leavesTapeAndSheets() {
        GlassWords x = busy();
        x.feed(0, 2);
        Due.sheetOf(x, 0, 8, 3);
        x.image();
        x.feed(0, 3);
        Due.sheetOf(x, 0, 8, 4, 5);
        Due.sheetOf(x, 1, 8, 6);
        x.undo();
        Due.due("count(5)", x.count(5), 5);
        Due.due("load(0)", x.load(0), 2);
        Due.due("of(0, 1)", x.of(0, 1), 4);
        Due.due("load(1)", x.load(1), 1);
    }

    private static void keepsTheLatest() {
        GlassWords x = Due.withWords(5, 5);
        x.image();
        x.read(1);
        x.image();
        x.read(1);
        Due.due("undo()", x.undo(), 20);
        Due.due("now(0)", x.now(0), 1);
        x.tear();
        Due.due("undo()", x.undo(), Due.NONE);
        x.image();
        Due.due("undo()", x.undo(), 20);
    }

    private static void counts() {
        GlassWords x = busy();
        x.feed(0, 3);
        int[] counts = {35, 2, 1, 12, 9, 3, 99, 1};
        for (int what = 0; what < 8; what++) {
            Due.due("count(" + what + ")", x.count(what), counts[what]);
        }
        Due.due("count(-1)", x.count(-1), Due.BEYOND);
        Due.due("count(8)", x.count(8), Due.BEYOND);
    }

    private static void stateIs(GlassWords x, int... counts) {
        for (int which = -1; which < 7; which++) {
            Due.due("status(" + which + ")", x.status(which), counts[which + 1]);
        }
    }

    private static void states() {
        GlassWords x = new GlassWords();
        x.image();
        x.line(9);
        x.feed(0, 4);
        for (int i = 0; i < 30; i++) {
            x.feed(0, 4);
        }
        x.trips();
        x.read(1);
        x.as(0, 0);
        x.sheet(0, 8, -1);
        stateIs(x, 6, 1, 1, 0, 1, 1, 1, 1);
        x.line(0);
        x.hold(0, 0);
        x.as(0, 6);
        x.undo();
        stateIs(x, 7, 1, 1, 1, 1, 1, 1, 1);
        Due.due("status(7)", x.status(7), Due.BEYOND);
        Due.due("status(-2)", x.status(-2), Due.BEYOND);
        stateIs(x, 9, 3, 1, 1, 1, 1, 1, 1);
        x.stays(99, 0);
        x.text();
        stateIs(x, 10, 4, 1, 1, 1, 1, 1, 1);
    }
}
