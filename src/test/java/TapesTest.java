/** Promises 27 to 29: fits, led, part. */
public final class TapesTest {

    public static void main(String[] args) {
        tapes();
        alone();
        fromAt();
        findings();
        Due.end();
    }

    /** Takes 20, then ten words by 4, 4, 5, 5, .. 8, 8, 9 tenths as A goes from 0 to 10. */
    private static GlassWords twoLines() {
        GlassWords x = Due.withWords(5, 10);
        Due.rules(x, 4, 9, 3, 3, 0, 0);
        return x;
    }

    private static void isTold(GlassWords x, int fits, int led, int above, int below) {
        Due.due("fits(1)", x.fits(1), fits);
        Due.due("led(1)", x.led(1), led);
        Due.due("part(1, 0)", x.part(1, 0), above);
        Due.due("part(1, 1)", x.part(1, 1), below);
    }

    private static void tapes() {
        GlassWords x = twoLines();
        Due.sheetOf(x, 1, 16);
        isTold(x, 121, 0, 5, 11);
        Due.sheetOf(x, 1, 16, 20);
        isTold(x, 121, 0, 5, 11);
        Due.sheetOf(x, 1, 16, 20, 70);
        isTold(x, 22, 66, 7, 22);
        Due.sheetOf(x, 1, 16, 20, 70, 5);
        isTold(x, 22, 66, 7, 22);
        Due.sheetOf(x, 1, 16, 20, 40);
        isTold(x, 22, 0, 19, 22);
        Due.sheetOf(x, 1, 16, 20, 80);
        isTold(x, 22, 88, 3, 22);
        Due.sheetOf(x, 1, 16, 20, 90);
        isTold(x, 11, 110, 0, 1);
        Due.due("ruled(2)", x.ruled(2), 3);
    }

    private static GlassWords withTape() {
        GlassWords x = twoLines();
        Due.sheetOf(x, 0, 16, 20, 70);
        return x;
    }

    private static void alone() {
        Due.due("fits(0), asked alone", withTape().fits(0), 22);
        Due.due("led(0), asked alone", withTape().led(0), 66);
        Due.due("part(0, 0), asked alone", withTape().part(0, 0), 7);
        Due.due("part(0, 1), asked alone", withTape().part(0, 1), 22);
    }

    private static void fromAt() {
        GlassWords x = twoLines();
        x.go(1);
        Due.sheetOf(x, 1, 8, 40, 3);
        isTold(x, 121, 0, 5, 11);
        x.go(2);
        Due.sheetOf(x, 1, 8, 1, 2);
        isTold(x, 121, 0, 5, 11);
    }

    private static void findings() {
        GlassWords x = twoLines();
        Due.sheetOf(x, 1, 16, 21);
        Due.due("fits(1)", x.fits(1), 0);
        Due.due("led(1)", x.led(1), Due.NONE);
        Due.due("part(1, 0)", x.part(1, 0), Due.NONE);
        Due.due("part(1, 1)", x.part(1, 1), Due.NONE);
        Due.due("part(1, 2)", x.part(1, 2), Due.BEYOND);
        Due.due("part(1, -1)", x.part(1, -1), Due.BEYOND);
        Due.due("part(0, 2)", x.part(0, 2), Due.MISSING);
        Due.due("fits(0)", x.fits(0), Due.MISSING);
        Due.due("led(3)", x.led(3), Due.MISSING);
        for (int s = -1; s < 5; s += 5) {
            Due.due("fits(" + s + ")", x.fits(s), Due.BEYOND);
            Due.due("led(" + s + ")", x.led(s), Due.BEYOND);
            Due.due("part(" + s + ", 0)", x.part(s, 0), Due.BEYOND);
        }
        Due.sheetOf(x, 2, 8, 276);
        Due.due("fits(2) of eight bits alone", x.fits(2), 121);
    }
}
