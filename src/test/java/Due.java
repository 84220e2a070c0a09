/** Tells every call whose answer is not the one that is due, and ends with exit code 1 if there was one. */
final class Due {

    static final int BEYOND = -1000001;
    static final int FULL = -1000002;
    static final int KIND = -1000003;
    static final int NONE = -1000004;
    static final int STATE = -1000005;
    static final int MISSING = -1000006;
    static final int SIZE = -1000007;

    private static int asked = 0;
    private static int wrong = 0;

    private Due() {
    }

    static void due(String call, long got, long want) {
        asked++;
        if (got != want) {
            wrong++;
            System.out.println(call + " answered " + got + ", due is " + want);
        }
    }

    static void isTrue(String what, boolean so) {
        due(what, so ? 1 : 0, 1);
    }

    /** An object with a line of each kind that is told. */
    static GlassWords withLines(int... kinds) {
        GlassWords x = new GlassWords();
        for (int i = 0; i < kinds.length; i++) {
            due("line(" + kinds[i] + ")", x.line(kinds[i]), i);
        }
        return x;
    }

    /** An object with lines of the first kind, of so many words each. */
    static GlassWords withWords(int... words) {
        GlassWords x = new GlassWords();
        for (int i = 0; i < words.length; i++) {
            x.line(0);
            x.change(i, 1, words[i]);
        }
        return x;
    }

    /** Twelve lines that take 2035 each, read so many times: CLOCK comes near its end behind 512 calls alone. */
    static GlassWords late(int times) {
        GlassWords x = withLines(5, 5, 5, 5, 5, 5, 5, 5, 5, 5, 5, 5);
        for (int i = 0; i < 12; i++) {
            x.change(i, 1, 20);
            x.change(i, 2, 9);
        }
        rules(x, 99, 99, 0, 0, 0, 0);
        for (int i = 0; i < times; i++) {
            x.read(12);
            x.go(0);
        }
        return x;
    }

    static void rules(GlassWords x, int... v) {
        for (int what = 0; what < v.length; what++) {
            x.rule(what, v[what]);
        }
    }

    static void feedText(GlassWords x, String text) {
        for (int i = 0; i < text.length(); i++) {
            x.feed(text.charAt(i), 1);
        }
    }

    static void sheetOf(GlassWords x, int s, int bits, int... numbers) {
        due("sheet", x.sheet(s, bits, numbers.length), numbers.length);
        for (int i = 0; i < numbers.length; i++) {
            due("write", x.write(s, i, numbers[i]), 1);
        }
    }

    static void end() {
        System.out.println(wrong == 0 ? asked + " answers are as due" : wrong + " answers are not as due");
        if (wrong != 0 || asked == 0) {
            System.exit(1);
        }
    }
}
