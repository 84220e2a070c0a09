/** Promises 34 to 36: feed, wipe, text. */
public final class TextsTest {

    public static void main(String[] args) {
        feeds();
        tellsLines();
        tellsRules();
        keepsWhatIsNotTold();
        faults();
        faultsChangeNothing();
        thirteenthLine();
        Due.end();
    }

    private static void feeds() {
        GlassWords x = new GlassWords();
        Due.due("feed(0, 0)", x.feed(0, 0), Due.BEYOND);
        Due.due("feed(0, 5)", x.feed(0, 5), Due.BEYOND);
        Due.due("feed(.., 4)", x.feed(0x6c696e65, 4), 4);
        Due.due("feed(.., 2)", x.feed(0x7a7a203b, 2), 6);
        Due.due("feed(.., 3)", x.feed(0x6f6666, 3), 9);
        Due.due("text()", x.text(), 2);
        Due.due("of(0, 0)", x.of(0, 0), 0);
        Due.due("of(1, 0)", x.of(1, 0), 5);
        for (int i = 1; i <= 29; i++) {
            Due.due("feed", x.feed(-1, 4), 4 * i);
        }
        Due.due("feed", x.feed(0, 3), 119);
        Due.due("feed(0, 2)", x.feed(0, 2), Due.FULL);
        Due.due("feed(0, 5)", x.feed(0, 5), Due.BEYOND);
        Due.due("feed(0, 1)", x.feed(0, 1), 120);
        Due.due("feed(0, 1)", x.feed(0, 1), Due.FULL);
        Due.due("count(5)", x.count(5), 120);
        Due.due("wipe()", x.wipe(), 120);
        Due.due("wipe()", x.wipe(), 0);
        Due.due("count(5)", x.count(5), 0);
        Due.due("text() of nothing", x.text(), -1);
    }

    private static int told(GlassWords x, String text) {
        Due.feedText(x, text);
        Due.due("count(5)", x.count(5), text.length());
        int answer = x.text();
        Due.due("count(5) behind text()", x.count(5), 0);
        return answer;
    }

    private static void tellsLines() {
        GlassWords x = new GlassWords();
        Due.due("text()", told(x, "line;level;sinking;rising;stopped;off;blank"), 7);
        for (int i = 0; i < 7; i++) {
            Due.due("of(" + i + ", 0)", x.of(i, 0), i);
            Due.due("of(" + i + ", 1)", x.of(i, 1), 5);
            Due.due("of(" + i + ", 2)", x.of(i, 2), 0);
        }
        Due.due("text()", told(x, "  off words20hard 9 ; blank hard 0;  line words 007 "), 3);
        int[][] lines = {{5, 20, 9}, {6, 5, 0}, {0, 7, 0}};
        for (int i = 0; i < 3; i++) {
            for (int what = 0; what < 3; what++) {
                Due.due("of", x.of(7 + i, what), lines[i][what]);
            }
        }
        Due.due("now(0)", x.now(0), 0);
    }

    private static void tellsRules() {
        GlassWords x = new GlassWords();
        Due.due("text()", told(x, "reader 99 weight 10 drift 9;knob 1 weight 0 drift - 9;ahead 9;letters 6;leaves 10;hour 99999"),
            6);
        int[] rules = {99, 1, 10, 0, 9, -9, 9, 6, 10, 99999};
        for (int what = 0; what < 10; what++) {
            Due.due("ruled(" + what + ")", x.ruled(what), rules[what]);
        }
        Due.due("text() of one rule twice", told(x, "hour 0;hour 7;ahead 0;leaves 0;letters 1"), 5);
        int[] later = {99, 1, 10, 0, 9, -9, 0, 1, 0, 7};
        for (int what = 0; what < 10; what++) {
            Due.due("ruled(" + what + ")", x.ruled(what), later[what]);
        }
    }

    private static void keepsWhatIsNotTold() {
        GlassWords x = new GlassWords();
        Due.due("text()", told(x, "reader 7 drift 2;knob 8 weight 1"), 2);
        int[] rules = {7, 8, 5, 1, 2, 0, 3, 3, 0, 600};
        for (int what = 0; what < 10; what++) {
            Due.due("ruled(" + what + ")", x.ruled(what), rules[what]);
        }
        Due.due("text()", told(x, "knob 8 drift -0;reader 7 drift 0"), 2);
        Due.due("ruled(4)", x.ruled(4), 0);
        Due.due("ruled(5)", x.ruled(5), 0);
        Due.due("text()", told(x, "knob 9 drift -3;reader 6 drift 2"), 2);
        int[] later = {6, 9, 5, 1, 2, -3, 3, 3, 0, 600};
        for (int what = 0; what < 10; what++) {
            Due.due("ruled(" + what + ")", x.ruled(what), later[what]);
        }
    }

    private static void faultAt(int place, String text) {
        Due.due("text() of '" + text + "'", told(new GlassWords(), text), -1 - place);
    }

    private static void faults() {
        faultAt(0, "");
        faultAt(3, "   ");
        faultAt(0, "words 3");
        faultAt(0, ";line");
        faultAt(0, "Line");
        faultAt(0, "lines");
        faultAt(0, "lin");
        faultAt(0, "linez");
        faultAt(4, "line{");
        faultAt(4, "line`");
        faultAt(4, "lineZ");
        faultAt(6, "hour 1:");
        faultAt(6, "hour 1/");
        faultAt(15, "reader 5 drift ?3");
        faultAt(0, "nine");
        faultAt(0, "lint");
        faultAt(0, "our 3");
        faultAt(5, "line lords 3");
        faultAt(2, "  5");
        faultAt(0, "-");
        faultAt(5, "line;");
        faultAt(6, "line; ");
        faultAt(5, "line;;line");
        faultAt(5, "line line");
        faultAt(5, "line 5");
        faultAt(4, "line.");
        faultAt(4, "line\t");
        faultAt(11, "line words ");
        faultAt(11, "line words hard 3");
        faultAt(11, "line words 0");
        faultAt(11, "line words 21");
        faultAt(10, "line words-3");
        faultAt(13, "line words 3 words 3");
        faultAt(9, "line hard");
        faultAt(10, "line hard 10");
        faultAt(12, "line hard 3 words 3");
        faultAt(6, "reader");
        faultAt(7, "reader 0");
        faultAt(7, "reader 100");
        faultAt(7, "reader -5");
        faultAt(16, "reader 5 weight ");
        faultAt(16, "reader 5 weight 11");
        faultAt(17, "reader 5 drift 3 weight 3");
        faultAt(15, "reader 5 drift 10");
        faultAt(16, "reader 5 drift -10");
        faultAt(16, "reader 5 drift -");
        faultAt(16, "reader 5 drift --3");
        faultAt(15, "reader 5 drift ;");
        faultAt(5, "knob 0");
        faultAt(14, "knob 5 weight 11");
        faultAt(13, "knob 5 drift 10");
        faultAt(8, "letters 0");
        faultAt(8, "letters 7");
        faultAt(6, "ahead 10");
        faultAt(7, "leaves 11");
        faultAt(7, "leaves x");
        faultAt(5, "hour 100000");
        faultAt(5, "hour 99999999999999999999");
        faultAt(5, "hour -1");
        faultAt(7, "hour 1 2");
        faultAt(6, "hour 1x");
        faultAt(6, "hour 1-");
    }

    private static void faultsChangeNothing() {
        GlassWords x = Due.withLines(2);
        Due.due("text()", told(x, "line words 7;hour 5;reader 9 weight 3 drift 3;off hard 99"), -56);
        Due.due("count(1)", x.count(1), 1);
        Due.due("ruled(9)", x.ruled(9), 600);
        Due.due("ruled(0)", x.ruled(0), 4);
        Due.due("ruled(4)", x.ruled(4), 0);
        Due.due("status(-1)", x.status(-1), 0);
    }

    private static void thirteenthLine() {
        GlassWords x = Due.withLines(0, 0, 0, 0, 0, 0, 0, 0, 0, 0, 0);
        Due.due("text() of a 13th line", told(x, "hour 3; off ;off words 99"), -14);
        Due.due("ruled(9)", x.ruled(9), 600);
        Due.due("text() of a 12th line", told(x, "off"), 1);
        Due.due("text() of rules alone", told(x, "hour 3"), 1);
        Due.due("text() of a 13th line", told(x, " off"), -2);
        Due.due("count(1)", x.count(1), 12);
    }
}
