import java.lang.reflect.Method;
import java.util.Random;

/** Runs of random calls (the same ones each time), each answer compared with that of the plain model. */
public final class ModelTest {

    /** In the order in which the face tells them. */
    static final String[] NAMES = {"line", "of", "change", "rule", "ruled", "read", "go", "turn", "now", "rest", "pace",
        "sign", "round", "leads", "found", "off", "grid", "worst", "trips", "kindFor", "ease", "fit", "kept", "jump",
        "jumped", "fits", "led", "part", "stays", "evening", "ahead", "seed", "feed", "wipe", "text", "hold", "as",
        "sheet", "write", "copy", "load", "judge", "image", "undo", "tear", "count", "status"};

    /** What each argument mostly is: from, to. */
    private static final int[][] USUAL = {{0, 6}, {0, 11, 0, 5}, {0, 11, 0, 2, 0, 9}, {0, 9, -9, 12}, {0, 9}, {1, 4},
        {0, 6}, {}, {0, 3}, {0, 4}, {0, 200, 0, 1}, {}, {0, 1}, {}, {}, {}, {}, {}, {}, {0, 11}, {0, 60}, {}, {},
        {0, 8, 1, 12}, {0, 8, 1, 12}, {0, 3}, {0, 3}, {0, 3, 0, 1}, {0, 15, 0, 1}, {1, 12}, {0, 20}, {-9, 9}, {0, 0, 1, 4},
        {}, {}, {0, 9, -1, 11}, {0, 9, 0, 6}, {0, 3, 0, 32, 0, 40}, {0, 3, 0, 12, 0, 120}, {0, 3, 0, 9, 0, 3, 0, 9, 0, 9},
        {0, 3}, {0, 3}, {}, {}, {}, {0, 7}, {-1, 6}};

    private static final String[] WORDS = {"line", "level", "sinking", "rising", "stopped", "off", "blank", "words", "hard",
        "reader", "weight", "drift", "knob", "letters", "ahead", "leaves", "hour", ";", ";", ";", "-", "0", "1", "3", "7",
        "10", "20", "99", "100", "99999", "100000", "x", "\t", "?"};

    private static final int[] EXTREMES = {Integer.MIN_VALUE, Integer.MAX_VALUE, -1, -2, 13, 41, 1000, 100000, -1000001};

    private final Random random;
    private final Method[] methods = new Method[NAMES.length];
    private GlassWords x;
    private PlainModel model;
    private int run;
    private int calls;

    private ModelTest(long seed) {
        random = new Random(seed);
        for (Method m : GlassWords.class.getMethods()) {
            for (int i = 0; i < NAMES.length; i++) {
                if (m.getName().equals(NAMES[i]) && m.getDeclaringClass() == GlassWords.class) {
                    methods[i] = m;
                }
            }
        }
    }

    public static void main(String[] args) throws ReflectiveOperationException {
        ModelTest test = new ModelTest(20261118);
        int runs = args.length > 1 ? Integer.parseInt(args[1]) : 150;
        for (int i = 0; i < runs; i++) {
            test.oneRun(i);
        }
        Due.end();
    }

    private void oneRun(int number) throws ReflectiveOperationException {
        run = number;
        calls = 0;
        x = new GlassWords();
        model = new PlainModel();
        int lines = random.nextInt(13);
        for (int i = 0; i < lines; i++) {
            both(0, random.nextInt(7));
            both(2, i, 1, 1 + random.nextInt(20));
            both(2, i, 2, random.nextInt(10));
        }
        int[] most = {99, 99, 10, 10, 19, 19, 9, 6, 10, 2500};
        for (int what = 0; what < 10; what++) {
            if (random.nextInt(3) > 0) {
                int v = random.nextInt(most[what] + 1);
                both(3, what, what == 4 || what == 5 ? v - 9 : v);
            }
        }
        while (calls < 500) {
            step();
        }
        both(46, -1);
    }

    private void step() throws ReflectiveOperationException {
        int kind = random.nextInt(12);
        if (kind == 0) {
            text();
        } else if (kind == 1) {
            times();
        } else if (kind == 2 && random.nextInt(4) == 0) {
            both(43);
        } else {
            int method = random.nextInt(NAMES.length);
            both(method, arguments(method));
        }
    }

    private int[] arguments(int method) {
        int[] usual = USUAL[method];
        int[] a = new int[usual.length / 2];
        for (int i = 0; i < a.length; i++) {
            int from = usual[2 * i];
            a[i] = from + random.nextInt(usual[2 * i + 1] - from + 1);
            if (random.nextInt(20) == 0) {
                a[i] = EXTREMES[random.nextInt(EXTREMES.length)];
            }
        }
        if (method == 37 && random.nextInt(10) > 0) {
            a[1] = new int[] {0, 8, 16, 32, 8, 16, 8, 16}[random.nextInt(8)];
        }
        if (method == 32) {
            a[0] = random.nextInt();
        }
        return a;
    }

    private void text() throws ReflectiveOperationException {
        both(33);
        StringBuilder text = new StringBuilder();
        int items = 1 + random.nextInt(5);
        for (int i = 0; i < items; i++) {
            text.append(i == 0 ? "" : ";").append(item());
        }
        if (random.nextInt(3) == 0) {
            int at = random.nextInt(text.length());
            text.insert(at, WORDS[random.nextInt(WORDS.length)]);
        }
        if (random.nextInt(8) == 0) {
            text.setLength(random.nextInt(text.length()));
        }
        for (int i = 0; i + 4 <= text.length() && i + 4 <= 120; i += 4) {
            int v = 0;
            for (int j = i; j < i + 4; j++) {
                v = v << 8 | text.charAt(j);
            }
            both(32, v, 4);
        }
        for (int i = text.length() / 4 * 4; i < text.length(); i++) {
            both(32, text.charAt(i), 1);
        }
        both(34);
    }

    private String item() {
        int which = random.nextInt(16);
        String number = " " + random.nextInt(11);
        if (which < 7) {
            return WORDS[which] + (random.nextBoolean() ? " words" + number : "") + (random.nextBoolean() ? "hard" + number : "");
        }
        if (which < 12) {
            return (which < 10 ? "reader" : "knob") + number + (random.nextBoolean() ? " weight" + random.nextInt(11) : "")
                + (random.nextBoolean() ? " drift" + (random.nextBoolean() ? "-" : " ") + random.nextInt(10) : "");
        }
        return WORDS[which + 1] + number;
    }

    /** A sheet of what the lines from AT on would take, or of what CLOCK would be, perhaps with a fault. */
    private void times() throws ReflectiveOperationException {
        int s = random.nextInt(4);
        int n = random.nextInt(6);
        both(37, s, 32, n);
        boolean sums = random.nextBoolean();
        int at = (int) model.call(8, new int[] {0});
        int clock = (int) model.call(8, new int[] {1});
        int lines = (int) model.call(45, new int[] {1});
        for (int i = 0; i < n && at + i < lines; i++) {
            int pace = (int) model.call(10, new int[] {i, 0});
            int was = (int) model.call(3, new int[] {0, pace});
            int takes = (int) model.call(1, new int[] {at + i, 3});
            model.call(3, new int[] {0, was});
            clock += takes;
            both(38, s, i, (sums ? clock : takes) + (random.nextInt(12) == 0 ? 1 : 0));
        }
        both(sums ? 41 : 25, s);
        if (!sums) {
            both(26, s);
            both(27, s, random.nextInt(2));
        }
    }

    private void both(int method, int... a) throws ReflectiveOperationException {
        if (calls >= 512) {
            return;
        }
        calls++;
        Object[] boxed = new Object[a.length];
        StringBuilder told = new StringBuilder("run " + run + ", call " + calls + ": " + NAMES[method] + "(");
        for (int i = 0; i < a.length; i++) {
            boxed[i] = a[i];
            told.append(i == 0 ? "" : ", ").append(a[i]);
        }
        long got = ((Number) methods[method].invoke(x, boxed)).longValue();
        Due.due(told.append(")").toString(), got, model.call(method, a));
    }
}
