import java.util.ArrayList;
import java.util.HashMap;
import java.util.List;
import java.util.Map;
import java.util.TreeMap;
import java.util.regex.Matcher;
import java.util.regex.Pattern;

/** The document once more, slow and plain, to compare with: it goes through all that there is, and keeps copies. */
final class PlainModel {

    /** A finding on its way out. */
    private static final class Finding extends RuntimeException {
        private static final long serialVersionUID = 1L;
        final int which;

        Finding(int which) {
            super(null, null, false, false);
            this.which = which;
        }
    }

    private static final class State {
        List<int[]> lines = new ArrayList<>();
        int[] rules = {4, 4, 5, 5, 0, 0, 3, 3, 0, 600};
        int at = 0;
        int clock = 0;
        int tripped = 0;
        int looked = 0;
        int z = 1;
        Map<Integer, Integer> spots = new TreeMap<>();

        State copied() {
            State c = new State();
            for (int[] line : lines) {
                c.lines.add(line.clone());
            }
            c.rules = rules.clone();
            c.at = at;
            c.clock = clock;
            c.tripped = tripped;
            c.looked = looked;
            c.z = z;
            c.spots = new TreeMap<>(spots);
            return c;
        }
    }

    private static final String[] KIND_WORDS = {"line", "level", "sinking", "rising", "stopped", "off", "blank"};
    private static final int[] ABOVE = {-1, 0, 0, 2, 0, 4, 5};
    private static final int[][] RULE_BOUNDS = {{1, 99}, {1, 99}, {0, 10}, {0, 10}, {-9, 9}, {-9, 9}, {0, 9}, {1, 6},
        {0, 10}, {0, 99999}};
    private static final int[][] LINE_BOUNDS = {{0, 6}, {1, 20}, {0, 9}};

    private State state = new State();
    private State kept = null;
    private final StringBuilder tape = new StringBuilder();
    private final int[][] sheets = new int[4][];
    private final int[] bits = new int[4];
    private final int[] findings = new int[7];

    // ---- asking

    private static void ask(boolean so, int finding) {
        if (!so) {
            throw new Finding(finding);
        }
    }

    private static void within(int v, int least, int most) {
        ask(least <= v && v <= most, 0);
    }

    private int[] sheetAt(int s) {
        within(s, 0, 3);
        ask(sheets[s] != null, 5);
        return sheets[s];
    }

    private int lines() {
        return state.lines.size();
    }

    // ---- terms

    private static int takes(int kind, int[] line, int r) {
        switch (kind) {
            case 0: return line[1] * r;
            case 1: return Math.max(takes(0, line, r) - 1, 1);
            case 2: return takes(0, line, r) + line[2];
            case 3: return takes(2, line, r) + line[2] / 2;
            case 4: return takes(0, line, r) + 5 * line[2];
            case 5: return takes(4, line, r) + 10;
            default: return takes(5, line, r) / 2;
        }
    }

    private static int trips(int kind, int[] line, int[] rules) {
        switch (kind) {
            case 0: return Math.max(line[2] - rules[6] - rules[7], 0);
            case 2: return trips(0, line, rules) + 1;
            case 3: return 2 * trips(2, line, rules);
            case 4: return trips(0, line, rules) + line[2];
            case 5: return trips(4, line, rules) / 2;
            default: return trips(ABOVE[kind], line, rules);
        }
    }

    private static int seen(int kind, int[] rules) {
        switch (kind) {
            case 0: return (rules[6] + 2 * rules[7]) / 3;
            case 1: return Math.max(seen(0, rules) - 1, 0);
            case 2: return seen(0, rules) + 2;
            case 3: return seen(2, rules) + 1;
            case 6: return 5;
            default: return seen(ABOVE[kind], rules);
        }
    }

    private static void turnOf(State s) {
        int r = s.rules[0];
        int k = s.rules[1];
        s.rules[0] = Math.min(99, Math.max(1, r + s.rules[2] * (k - r) / 10 + s.rules[4]));
        s.rules[1] = Math.min(99, Math.max(1, k + s.rules[3] * (r - k) / 10 + s.rules[5]));
    }

    private static void readOf(State s) {
        int[] line = s.lines.get(s.at);
        s.clock += takes(line[0], line, s.rules[0]);
        s.tripped += trips(line[0], line, s.rules);
        s.looked += seen(line[0], s.rules);
        turnOf(s);
        s.at++;
    }

    private static int drawOf(State s) {
        s.z = s.z * 1103515245 + 12345;
        return s.z >>> 8;
    }

    private static int eveningOf(State s, int n) {
        int left = 0;
        int read = 0;
        while (read < n && s.at < s.lines.size()) {
            readOf(s);
            read++;
            if (drawOf(s) % 10 < s.rules[8]) {
                left++;
                s.clock += s.rules[0] * (1 + drawOf(s) % 8);
                int over = drawOf(s) % 3;
                while (over > 0 && s.at < s.lines.size()) {
                    s.at++;
                    over--;
                }
            }
        }
        return left;
    }

    /** THE REST of a copy: TAKES, TRIPS, SEEN, R, K. */
    private static int[] restOf(State s) {
        State c = s.copied();
        while (c.at < c.lines.size()) {
            readOf(c);
        }
        return new int[] {c.clock - s.clock, c.tripped - s.tripped, c.looked - s.looked, c.rules[0], c.rules[1]};
    }

    private State behind(int turns) {
        State c = state.copied();
        for (int i = 0; i < turns; i++) {
            turnOf(c);
        }
        return c;
    }

    private static int pair(State s) {
        return 100 * s.rules[0] + s.rules[1];
    }

    // ---- calls

    private int round(int what) {
        within(what, 0, 1);
        Map<Integer, Integer> first = new HashMap<>();
        State c = state.copied();
        for (int turn = 0;; turn++) {
            Integer was = first.put(pair(c), turn);
            if (was != null) {
                return what == 0 ? was : turn - was;
            }
            turnOf(c);
        }
    }

    private int sign() {
        State then = behind(200);
        if (pair(behind(201)) == pair(then)) {
            return 0;
        }
        if (then.rules[0] >= 50 && then.rules[1] >= 50) {
            return 1;
        }
        State c = then.copied();
        for (int i = 0; i < 100; i++) {
            turnOf(c);
            if (pair(c) == pair(then)) {
                return 2;
            }
        }
        return 3;
    }

    private int leads() {
        State then = behind(200);
        int sum = then.rules[0] + then.rules[1];
        int nearer = Integer.compare(Math.abs(sum - 2 * state.rules[0]), Math.abs(sum - 2 * state.rules[1]));
        return nearer < 0 ? 0 : nearer > 0 ? 1 : 2;
    }

    private int[] found() {
        int[] best = null;
        for (int a = 0; a <= 10; a++) {
            for (int b = 0; b <= 10; b++) {
                State c = state.copied();
                c.rules[2] = a;
                c.rules[3] = b;
                int far = Math.abs(restOf(c)[0] - state.rules[9]);
                if (best == null || far < best[1]) {
                    best = new int[] {11 * a + b, far};
                }
            }
        }
        return best;
    }

    private int[] grid() {
        int[] best = null;
        for (int letters = 1; letters <= 6; letters++) {
            for (int ahead = 0; ahead <= 9; ahead++) {
                State c = state.copied();
                c.rules[7] = letters;
                c.rules[6] = ahead;
                int[] rest = restOf(c);
                if (best == null || rest[1] + rest[2] < best[1]) {
                    best = new int[] {10 * letters + ahead, rest[1] + rest[2]};
                }
            }
        }
        return best;
    }

    private int mostTripping() {
        ask(lines() > 0, 3);
        int best = 0;
        for (int i = 1; i < lines(); i++) {
            if (of(i, 4) > of(best, 4)) {
                best = i;
            }
        }
        return best;
    }

    private int kindFor(int line) {
        within(line, 0, lines() - 1);
        int best = -1;
        int least = 0;
        for (int kind = 0; kind < 7; kind++) {
            State c = state.copied();
            c.lines.get(line)[0] = kind;
            int takes = restOf(c)[0];
            if (best < 0 || takes < least) {
                best = kind;
                least = takes;
            }
        }
        return best;
    }

    private int ease(int v) {
        within(v, 0, 999);
        int best = -1;
        for (int set = 0; set < 1 << lines(); set++) {
            int sum = 0;
            for (int i = state.at; i < lines(); i++) {
                int[] line = state.lines.get(i).clone();
                if ((set & 1 << i) != 0) {
                    line[2] = 0;
                }
                sum += trips(line[0], line, state.rules);
            }
            if (sum <= v && (best < 0 || Integer.bitCount(set) < Integer.bitCount(best))) {
                best = set;
            }
        }
        ask(best >= 0, 3);
        return best;
    }

    private int[] fit() {
        int[] best = null;
        for (int set = 0; set < 1 << lines(); set++) {
            if ((set & (1 << state.at) - 1) != 0) {
                continue;
            }
            State c = state.copied();
            int words = 0;
            while (c.at < lines()) {
                if ((set & 1 << c.at) == 0) {
                    words += c.lines.get(c.at)[1];
                    readOf(c);
                } else {
                    c.at++;
                }
            }
            if (c.clock - state.clock <= state.rules[9] && (best == null || words > best[1])) {
                best = new int[] {set, words};
            }
        }
        return best;
    }

    /** All ways in the order in which they count; a later one is taken only if it is shorter. */
    private void ways(int line, int to, boolean jumpedHere, int[] way, int[] best) {
        if (line == to) {
            if (best[0] < 0 || way[0] < best[0]) {
                best[0] = way[0];
                best[1] = way[1];
            }
            return;
        }
        ways(line + 1, to, false, new int[] {way[0] + of(line, 3), way[1] | 1 << line}, best);
        for (int over = 1; over <= 3 && !jumpedHere; over++) {
            if (line + over + 1 <= to) {
                ways(line + over + 1, to, true, new int[] {way[0] + 7 + 3 * over, way[1]}, best);
            }
        }
    }

    private int way(int from, int to, int what) {
        within(from, 0, lines() - 1);
        within(to, from + 1, lines());
        int[] best = {-1, 0};
        ways(from, to, false, new int[] {0, 0}, best);
        return best[what];
    }

    private List<int[]> fitting(int[] sheet) {
        List<int[]> all = new ArrayList<>();
        for (int a = 0; a <= 10; a++) {
            for (int b = 0; b <= 10; b++) {
                State c = state.copied();
                c.rules[2] = a;
                c.rules[3] = b;
                boolean just = true;
                for (int i = 0; i < sheet.length && c.at < lines(); i++) {
                    int was = c.clock;
                    readOf(c);
                    just &= c.clock - was == sheet[i];
                }
                if (just) {
                    all.add(new int[] {a, b});
                }
            }
        }
        return all;
    }

    private int part(int s, int what) {
        int[] sheet = sheetAt(s);
        within(what, 0, 1);
        List<int[]> all = fitting(sheet);
        ask(!all.isEmpty(), 3);
        int byReader = 0;
        for (int[] weights : all) {
            byReader += weights[0] < weights[1] ? 1 : 0;
        }
        return (what == 0 ? byReader : all.size()) / gcd(byReader, all.size());
    }

    private static int gcd(int a, int b) {
        return b == 0 ? a : gcd(b, a % b);
    }

    private long stays(int n, int what) {
        within(n, 0, 15);
        within(what, 0, 1);
        long above = 1;
        long below = 1;
        for (int i = 0; i < n; i++) {
            above *= 10 - state.rules[8];
            below *= 10;
        }
        long a = above;
        long b = below;
        while (b != 0) {
            long rest = a % b;
            a = b;
            b = rest;
        }
        return (what == 0 ? above : below) / a;
    }

    private int ahead(int n) {
        within(n, 0, 20);
        int left = 0;
        int z = state.z;
        for (int i = 0; i < n; i++) {
            State c = state.copied();
            c.z = z;
            left += eveningOf(c, 1000);
            z = c.z;
        }
        return left;
    }

    private int of(int line, int what) {
        within(line, 0, lines() - 1);
        within(what, 0, 5);
        int[] l = state.lines.get(line);
        return what < 3 ? l[what] : what == 3 ? takes(l[0], l, state.rules[0]) : what == 4 ? trips(l[0], l, state.rules)
            : seen(l[0], state.rules);
    }

    // ---- texts: tokens first, then one pass over them

    private static final Pattern TOKEN = Pattern.compile(" *([a-z]+|[0-9]+|;|-|[^ ])", Pattern.DOTALL);

    private static final class Tokens {
        final List<String> words = new ArrayList<>();
        final List<Integer> places = new ArrayList<>();
        int i = 0;

        Tokens(String text) {
            Matcher m = TOKEN.matcher(text);
            int from = 0;
            while (m.find(from)) {
                words.add(m.group(1));
                places.add(m.start(1));
                from = m.end();
            }
            words.add("");
            places.add(text.length());
        }

        boolean may(String word) {
            if (words.get(i).equals(word)) {
                i++;
                return true;
            }
            return false;
        }

        /** -1: it isn't a number within these. */
        int number(int least, int most) {
            String w = words.get(i);
            if (!w.matches("[0-9]+")) {
                return -1;
            }
            java.math.BigInteger v = new java.math.BigInteger(w);
            if (v.compareTo(java.math.BigInteger.valueOf(least)) < 0
                || v.compareTo(java.math.BigInteger.valueOf(most)) > 0) {
                return -1;
            }
            i++;
            return v.intValue();
        }
    }

    private int text() {
        Tokens t = new Tokens(tape.toString());
        tape.setLength(0);
        State c = state.copied();
        int items = 0;
        do {
            if (!item(t, c)) {
                return -1 - t.places.get(t.i);
            }
            items++;
        } while (t.may(";"));
        if (!t.words.get(t.i).isEmpty()) {
            return -1 - t.places.get(t.i);
        }
        state = c;
        return items;
    }

    private static boolean set(Tokens t, int[] row, int at, int least, int most) {
        int v = t.number(least, most);
        if (v >= 0) {
            row[at] = v;
        }
        return v >= 0;
    }

    private static boolean item(Tokens t, State c) {
        for (int kind = 0; kind < 7; kind++) {
            if (t.words.get(t.i).equals(KIND_WORDS[kind])) {
                if (c.lines.size() == 12) {
                    return false;
                }
                t.i++;
                int[] line = {kind, 5, 0};
                c.lines.add(line);
                return (!t.may("words") || set(t, line, 1, 1, 20)) && (!t.may("hard") || set(t, line, 2, 0, 9));
            }
        }
        for (int who = 0; who < 2; who++) {
            if (t.may(who == 0 ? "reader" : "knob")) {
                if (!set(t, c.rules, who, 1, 99) || t.may("weight") && !set(t, c.rules, 2 + who, 0, 10)) {
                    return false;
                }
                if (!t.may("drift")) {
                    return true;
                }
                boolean below = t.may("-");
                boolean told = set(t, c.rules, 4 + who, 0, 9);
                c.rules[4 + who] *= told && below ? -1 : 1;
                return told;
            }
        }
        String[] names = {"ahead", "letters", "leaves", "hour"};
        for (int i = 0; i < 4; i++) {
            if (t.may(names[i])) {
                return set(t, c.rules, 6 + i, RULE_BOUNDS[6 + i][0], RULE_BOUNDS[6 + i][1]);
            }
        }
        return false;
    }

    // ---- spots, sheets, images

    private int as(int spot, int kind) {
        within(spot, 0, 9);
        within(kind, 0, 6);
        ask(state.spots.containsKey(spot), 5);
        int line = state.spots.get(spot);
        for (int k = state.lines.get(line)[0]; k >= 0; k = ABOVE[k]) {
            if (k == kind) {
                return line;
            }
        }
        throw new Finding(2);
    }

    private int sheet(int s, int newBits, int n) {
        within(s, 0, 3);
        ask(newBits == 0 || newBits == 8 || newBits == 16 || newBits == 32, 0);
        ask(n >= 0, 6);
        ask(n <= 40, 0);
        sheets[s] = newBits == 0 ? null : new int[n];
        bits[s] = newBits;
        return newBits == 0 ? 0 : n;
    }

    private int write(int s, int i, int v) {
        int[] sheet = sheetAt(s);
        within(i, 0, sheet.length - 1);
        sheet[i] = v << 32 - bits[s] >> 32 - bits[s];
        return 1;
    }

    private int copy(int s, int from, int t, int to, int n) {
        within(s, 0, 3);
        within(t, 0, 3);
        ask(sheets[s] != null && sheets[t] != null, 5);
        ask(bits[s] == bits[t], 2);
        ask(from >= 0 && to >= 0 && n >= 0, 0);
        ask((long) from + n <= sheets[s].length && (long) to + n <= sheets[t].length, 0);
        int[] were = sheets[s].clone();
        for (int i = 0; i < n; i++) {
            sheets[t][to + i] = were[from + i];
        }
        return n;
    }

    private int load(int s) {
        int[] sheet = sheetAt(s);
        for (int i = 0; i < sheet.length; i++) {
            if (sheet[i] < 1 || sheet[i] > 20 || i >= lines()) {
                return i;
            }
            state.lines.get(i)[1] = sheet[i];
        }
        return sheet.length;
    }

    private int judge(int s) {
        int[] sheet = sheetAt(s);
        State c = state.copied();
        for (int i = 0; i < sheet.length; i++) {
            if (c.at == lines()) {
                return 1 + i;
            }
            readOf(c);
            if (c.clock != sheet[i]) {
                return 1 + i;
            }
        }
        return 0;
    }

    private int read(int n) {
        within(n, 1, 12);
        ask(n <= lines() - state.at, 4);
        State c = state.copied();
        for (int i = 0; i < n; i++) {
            readOf(c);
        }
        ask(c.clock <= 9999999, 4);
        state = c;
        return c.clock;
    }

    private int count(int what) {
        within(what, 0, 7);
        int sum = 0;
        for (int[] line : state.lines) {
            sum += what == 3 ? line[1] : line[2];
        }
        int[] all = {state.clock, lines(), state.at, sum, sum, tape.length(), state.z, state.spots.size()};
        return all[what];
    }

    private int status(int which) {
        within(which, -1, 6);
        int all = 0;
        for (int i = 0; i < 7; i++) {
            all += which == -1 || which == i ? findings[i] : 0;
        }
        return all;
    }

    // ---- the calls by their numbers in the face

    long call(int method, int[] a) {
        try {
            return method < 24 ? early(method, a) : late(method, a);
        } catch (Finding f) {
            findings[f.which]++;
            return -1000001 - f.which;
        }
    }

    private static int put(int[] row, int at, int v) {
        int was = row[at];
        row[at] = v;
        return was;
    }

    private long early(int method, int[] a) {
        switch (method) {
            case 0:
                within(a[0], 0, 6);
                ask(lines() < 12, 1);
                state.lines.add(new int[] {a[0], 5, 0});
                return lines() - 1;
            case 1: return of(a[0], a[1]);
            case 2:
                within(a[0], 0, lines() - 1);
                within(a[1], 0, 2);
                within(a[2], LINE_BOUNDS[a[1]][0], LINE_BOUNDS[a[1]][1]);
                return put(state.lines.get(a[0]), a[1], a[2]);
            case 3:
                within(a[0], 0, 9);
                within(a[1], RULE_BOUNDS[a[0]][0], RULE_BOUNDS[a[0]][1]);
                return put(state.rules, a[0], a[1]);
            case 4:
                within(a[0], 0, 9);
                return state.rules[a[0]];
            case 5: return read(a[0]);
            case 6:
                within(a[0], 0, lines());
                int was = state.at;
                state.at = a[0];
                return was;
            case 7:
                turnOf(state);
                return state.rules[0];
            case 8:
                within(a[0], 0, 3);
                return new int[] {state.at, state.clock, state.tripped, state.looked}[a[0]];
            case 9:
                within(a[0], 0, 4);
                return restOf(state)[a[0]];
            case 10:
                within(a[0], 0, 200);
                within(a[1], 0, 1);
                return behind(a[0]).rules[a[1]];
            case 11: return sign();
            case 12: return round(a[0]);
            case 13: return leads();
            case 14: return found()[0];
            case 15: return found()[1];
            case 16: return grid()[0];
            case 17: return grid()[1];
            case 18: return mostTripping();
            case 19: return kindFor(a[0]);
            case 20: return ease(a[0]);
            case 21: return fit()[0];
            case 22: return fit()[1];
            default: return way(a[0], a[1], 0);
        }
    }

    private long late(int method, int[] a) {
        switch (method) {
            case 24: return way(a[0], a[1], 1);
            case 25: return fitting(sheetAt(a[0])).size();
            case 26:
                List<int[]> all = fitting(sheetAt(a[0]));
                ask(!all.isEmpty(), 3);
                return 11 * all.get(0)[0] + all.get(0)[1];
            case 27: return part(a[0], a[1]);
            case 28: return stays(a[0], a[1]);
            case 29:
                within(a[0], 1, 12);
                ask(state.at < lines() && state.clock <= 9900000, 4);
                return eveningOf(state, a[0]);
            case 30: return ahead(a[0]);
            case 31:
                int z = state.z;
                state.z = a[0];
                return z;
            case 32:
                within(a[1], 1, 4);
                ask(tape.length() + a[1] <= 120, 1);
                for (int i = a[1]; i > 0; i--) {
                    tape.append((char) (a[0] >>> 8 * (i - 1) & 255));
                }
                return tape.length();
            case 33:
                int had = tape.length();
                tape.setLength(0);
                return had;
            case 34: return text();
            case 35:
                within(a[0], 0, 9);
                within(a[1], -1, lines() - 1);
                state.spots.remove(a[0]);
                if (a[1] >= 0) {
                    state.spots.put(a[0], a[1]);
                }
                return 1;
            case 36: return as(a[0], a[1]);
            case 37: return sheet(a[0], a[1], a[2]);
            case 38: return write(a[0], a[1], a[2]);
            case 39: return copy(a[0], a[1], a[2], a[3], a[4]);
            case 40: return load(a[0]);
            case 41: return judge(a[0]);
            case 42:
                kept = state.copied();
                return 1;
            case 43:
                ask(kept != null, 3);
                state = kept.copied();
                return state.clock;
            case 44:
                int torn = kept == null ? 0 : 1;
                kept = null;
                return torn;
            case 45: return count(a[0]);
            default: return status(a[0]);
        }
    }
}
