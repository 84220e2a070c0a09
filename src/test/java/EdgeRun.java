import java.util.ArrayList;
import java.util.List;
import java.util.regex.Matcher;
import java.util.regex.Pattern;

/** A run of calls on new objects, told in the form that src/test/edges/README.md shows. */
final class EdgeRun {

    private static final int MOST_CALLS = 512;
    private static final Pattern CALL = Pattern.compile("(\\w+)\\(([^)]*)\\)");
    private static final Pattern QUOTED = Pattern.compile("\"([^\"]*)\"");
    private static final String[] BUSY = {"lines 2 4 0", "rules 5 9 4 5 1 -1 2 1 3 77", "change(0, 1, 7)", "change(1, 2, 9)",
        "read(1)", "seed(99)", "hold(3, 1)", "image()", "row 0 8 3 4 5", "row 1 16 7 8", "row 2 8 9", "tape \"hour 9\"",
        "rule(0, 6)", "rule(9, 500)", "change(0, 1, 9)", "change(2, 0, 3)", "read(1)", "seed(100)", "hold(3, 0)", "hold(0, 2)"};
    private static final String[] FINDINGS = {"BEYOND", "FULL", "KIND", "NONE", "STATE", "MISSING", "SIZE"};

    private final String about;
    private final boolean late;
    private final List<Face.Call> calls = new ArrayList<>();
    private GlassWords x = new GlassWords();
    private int looked = 0;

    /** A late run goes beyond the 512 calls that the document promises. */
    EdgeRun(String about, boolean late) {
        this.about = about;
        this.late = late;
    }

    /** How many answers were looked at. */
    int looked() {
        return looked;
    }

    void line(String line) {
        StringBuilder statement = new StringBuilder();
        boolean quoted = false;
        for (char c : (line + ";").toCharArray()) {
            quoted ^= c == '"';
            if (c == ';' && !quoted) {
                statement(statement.toString().strip());
                statement.setLength(0);
            } else {
                statement.append(c);
            }
        }
    }

    private void statement(String s) {
        String[] words = s.split("\\s+");
        if (s.isEmpty()) {
            return;
        }
        if (s.equals("new")) {
            x = new GlassWords();
            calls.clear();
        } else if (s.equals("busy")) {
            for (String one : BUSY) {
                statement(one);
            }
        } else if (s.startsWith("tape ")) {
            feed(quotedIn(s));
        } else if (s.startsWith("told ")) {
            feed(quotedIn(s));
            due("text()" + s.substring(s.lastIndexOf('"') + 1));
        } else if (s.startsWith("rules ")) {
            for (int what = 0; what < words.length - 1; what++) {
                make("rule", what, number(words[what + 1]));
            }
        } else if (s.startsWith("lines ")) {
            for (int i = 1; i < words.length; i++) {
                make("line", number(words[i]));
            }
        } else if (s.startsWith("words ")) {
            for (int i = 1; i < words.length; i++) {
                make("change", (int) make("line", 0), 1, number(words[i]));
            }
        } else if (s.startsWith("row ")) {
            make("sheet", number(words[1]), number(words[2]), words.length - 3);
            for (int i = 3; i < words.length; i++) {
                make("write", number(words[1]), i - 3, number(words[i]));
            }
        } else if (s.matches("\\d+ x .*")) {
            repeat(number(words[0]), s.substring(s.indexOf(" x ") + 3));
        } else {
            due(s);
        }
    }

    private static String quotedIn(String s) {
        Matcher m = QUOTED.matcher(s);
        if (!m.find()) {
            throw new IllegalArgumentException("no text in " + s);
        }
        return m.group(1);
    }

    /** A byte that is no plain sign is told by a backslash, an x and two hexadecimal digits. */
    private void feed(String text) {
        List<Integer> bytes = new ArrayList<>();
        for (int i = 0; i < text.length(); i++) {
            if (text.startsWith("\\x", i)) {
                bytes.add(Integer.parseInt(text.substring(i + 2, i + 4), 16));
                i += 3;
            } else {
                bytes.add((int) text.charAt(i));
            }
        }
        for (int i = 0; i < bytes.size(); i += 4) {
            int n = Math.min(4, bytes.size() - i);
            int v = 0;
            for (int j = 0; j < n; j++) {
                v = v << 8 | bytes.get(i + j);
            }
            make("feed", v, n);
        }
    }

    private void repeat(int times, String group) {
        for (int i = 0; i < times; i++) {
            for (String one : group.split("\\+")) {
                Face.Call call = callIn(one.strip(), 0);
                make(call.name(), call.numbers());
            }
        }
    }

    /** A call that only leads to what is looked at; were it refused, the run would tell of something else. */
    private long make(String name, int... numbers) {
        Face.Call call = Face.call(name, numbers);
        long answer = answerOf(call);
        if (call.isFinding(answer)) {
            Due.isTrue(about + ": " + call.told() + " is not refused", false);
        }
        return answer;
    }

    private long answerOf(Face.Call call) {
        calls.add(call);
        if (calls.size() > MOST_CALLS && !late) {
            throw new IllegalStateException("more than 512 calls of one object");
        }
        return call.on(x);
    }

    private void due(String s) {
        int equal = s.indexOf('=');
        if (equal < 0) {
            Face.Call call = callIn(s, 0);
            make(call.name(), call.numbers());
            return;
        }
        String told = s.substring(0, equal).strip();
        String[] answers = s.substring(equal + 1).strip().split("\\s+");
        int n = timesOf(told);
        if (answers.length != 1 && answers.length != n) {
            throw new IllegalArgumentException(answers.length + " answers for " + n + " calls: " + s);
        }
        for (int i = 0; i < n; i++) {
            ask(callIn(told, i), answerNamed(answers[answers.length == 1 ? 0 : i]));
        }
    }

    private void ask(Face.Call call, long want) {
        looked++;
        String told = about + ": " + call.told();
        List<Face.Call> before = new ArrayList<>(calls);
        Due.due(told, answerOf(call), want);
        boolean finding = call.isFinding(want);
        if (late || !finding && !call.onlyTells()) {
            return;
        }
        if (before.size() + 1 + Whole.MOST_CALLS > MOST_CALLS) {
            throw new IllegalStateException("too many calls ahead of " + call.told() + " for a look at all");
        }
        Due.isTrue(told + " changes nothing: " + Whole.changedBy(before, call), Whole.changedBy(before, call).isEmpty());
        int[] answered = Whole.answered(before, call);
        for (int which = 0; which < 7; which++) {
            Due.due(told + ", findings of kind " + which, answered[which], want == Due.BEYOND - which && finding ? 1 : 0);
        }
        Due.due(told + ", findings of all kinds", answered[7], finding ? 1 : 0);
    }

    // ---- numbers, answers, calls

    private static int number(String s) {
        if (s.equals("MIN")) {
            return Integer.MIN_VALUE;
        }
        return s.equals("MAX") ? Integer.MAX_VALUE : Integer.parseInt(s);
    }

    private static long answerNamed(String s) {
        for (int i = 0; i < FINDINGS.length; i++) {
            if (s.equals(FINDINGS[i])) {
                return Due.BEYOND - i;
            }
        }
        return s.equals("MIN") || s.equals("MAX") ? number(s) : Long.parseLong(s);
    }

    private static int timesOf(String told) {
        Matcher range = Pattern.compile("(-?\\d+)\\.\\.(-?\\d+)").matcher(told);
        return range.find() ? number(range.group(2)) - number(range.group(1)) + 1 : 1;
    }

    /** The i-th of the calls that a range (0..9) among the numbers stands for. */
    private static Face.Call callIn(String told, int i) {
        Matcher m = CALL.matcher(told);
        if (!m.matches()) {
            throw new IllegalArgumentException("no call: " + told);
        }
        String inside = m.group(2).strip();
        String[] parts = inside.isEmpty() ? new String[0] : inside.split("\\s*,\\s*");
        int[] numbers = new int[parts.length];
        for (int k = 0; k < parts.length; k++) {
            int dots = parts[k].indexOf("..");
            numbers[k] = dots < 0 ? number(parts[k]) : number(parts[k].substring(0, dots)) + i;
        }
        return Face.call(m.group(1), numbers);
    }
}
