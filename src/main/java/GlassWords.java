import java.util.Arrays;

/** Words on a pane of glass: lines, two paces that follow each other, and what comes of it (../shared/DOC.md). */
public final class GlassWords {

    private static final int LOW = -1000001;
    private static final int BEYOND = 0;
    private static final int FULL = 1;
    private static final int OTHER_KIND = 2;
    private static final int NONE = 3;
    private static final int STATE = 4;
    private static final int MISSING = 5;
    private static final int SIZE = 6;
    private static final int FINDINGS = 7;

    private static final int MOST_LINES = 12;
    private static final int MOST_BYTES = 120;
    private static final int MOST_NUMBERS = 40;
    private static final int MOST_CLOCK = 9999999;
    private static final int LATE_CLOCK = 9900000;
    private static final int SPOTS = 10;
    private static final int SHEETS = 4;
    private static final int RULES = 10;
    private static final int MOST_TURNS = 200;
    private static final int MOST_EVENINGS = 20;
    private static final int MOST_STAYS = 15;
    private static final int MOST_EASED = 999;

    private static final int LINE = 0;
    private static final int LEVEL = 1;
    private static final int SINKING = 2;
    private static final int RISING = 3;
    private static final int STOPPED = 4;
    private static final int OFF = 5;
    private static final int BLANK = 6;
    private static final int KINDS = 7;
    private static final int[] KIND_ABOVE = {-1, LINE, LINE, SINKING, LINE, STOPPED, OFF};

    private static final int LEAST_WORDS = 1;
    private static final int MOST_WORDS = 20;
    private static final int FIRST_WORDS = 5;
    private static final int MOST_HARD = 9;
    private static final int[] LEAST_FEATURE = {LINE, LEAST_WORDS, 0};
    private static final int[] MOST_FEATURE = {BLANK, MOST_WORDS, MOST_HARD};

    private static final int READER_PACE = 0;
    private static final int KNOB_PACE = 1;
    private static final int READER_WEIGHT = 2;
    private static final int KNOB_WEIGHT = 3;
    private static final int READER_DRIFT = 4;
    private static final int KNOB_DRIFT = 5;
    private static final int EYES_AHEAD = 6;
    private static final int LETTERS = 7;
    private static final int LEAVES = 8;
    private static final int HOUR = 9;
    private static final int[] LEAST_RULE = {1, 1, 0, 0, -9, -9, 0, 1, 0, 0};
    private static final int[] MOST_RULE = {99, 99, 10, 10, 9, 9, 9, 6, 10, 99999};
    private static final int[] FIRST_RULE = {4, 4, 5, 5, 0, 0, 3, 3, 0, 600};

    /** A pair of weights is told as one number: this many times A, and B. */
    private static final int WEIGHTS = 11;

    private final Studio studio = new Studio();
    private final Studio keptStudio = new Studio();
    private final Studio draft = new Studio();
    private final Paces paces = new Paces();
    private final Rounds rounds = new Rounds();
    private final Searches searches = new Searches();
    private final Ways ways = new Ways();
    private final Tape tape = new Tape();
    private final Script script = new Script();
    private final Sheet[] sheets = new Sheet[SHEETS];
    private final int[] findings = new int[FINDINGS];
    private boolean imageIsKept;

    public GlassWords() {
        for (int s = 0; s < SHEETS; s++) {
            sheets[s] = new Sheet();
        }
    }

    // ---- lines, rules

    public int line(int kind) {
        if (!isWithin(kind, LINE, BLANK)) {
            return finding(BEYOND);
        }
        if (!studio.hasRoom()) {
            return finding(FULL);
        }
        return studio.addLine(kind);
    }

    public int of(int line, int what) {
        if (!studio.isLine(line) || !isWithin(what, 0, 5)) {
            return finding(BEYOND);
        }
        switch (what) {
            case 3:
                return studio.takesOf(line, studio.rules[READER_PACE]);
            case 4:
                return studio.tripsOf(line);
            case 5:
                return studio.seenOf(line);
            default:
                return studio.features(what)[line];
        }
    }

    public int change(int line, int what, int v) {
        if (!studio.isLine(line) || !isWithin(what, 0, 2)) {
            return finding(BEYOND);
        }
        if (!isWithin(v, LEAST_FEATURE[what], MOST_FEATURE[what])) {
            return finding(BEYOND);
        }
        int[] features = studio.features(what);
        int was = features[line];
        features[line] = v;
        return was;
    }

    public int rule(int what, int v) {
        if (!isWithin(what, 0, RULES - 1) || !isWithin(v, LEAST_RULE[what], MOST_RULE[what])) {
            return finding(BEYOND);
        }
        int was = studio.rules[what];
        studio.rules[what] = v;
        return was;
    }

    public int ruled(int what) {
        return isWithin(what, 0, RULES - 1) ? studio.rules[what] : finding(BEYOND);
    }

    // ---- reading

    public int read(int n) {
        if (!isWithin(n, 1, MOST_LINES)) {
            return finding(BEYOND);
        }
        if (n > studio.linesAhead() || studio.clock > MOST_CLOCK - takesAhead(n)) {
            return finding(STATE);
        }
        for (int i = 0; i < n; i++) {
            studio.readOne(paces);
        }
        return studio.clock;
    }

    public int go(int line) {
        if (!isWithin(line, 0, studio.lines)) {
            return finding(BEYOND);
        }
        int was = studio.at;
        studio.at = line;
        return was;
    }

    public int turn() {
        studio.turnPaces(paces);
        return studio.rules[READER_PACE];
    }

    public int now(int what) {
        switch (what) {
            case 0:
                return studio.at;
            case 1:
                return studio.clock;
            case 2:
                return studio.tripped;
            case 3:
                return studio.looked;
            default:
                return finding(BEYOND);
        }
    }

    public int rest(int what) {
        if (!isWithin(what, 0, 4)) {
            return finding(BEYOND);
        }
        if (what == 1) {
            return studio.tripsAhead();
        }
        if (what == 2) {
            return studio.seenAhead();
        }
        int takes = takesAhead(studio.linesAhead());
        if (what == 0) {
            return takes;
        }
        return what == 3 ? paces.reader : paces.knob;
    }

    // ---- paces (nothing changes)

    public int pace(int n, int what) {
        if (!isWithin(n, 0, MOST_TURNS) || !isWithin(what, 0, 1)) {
            return finding(BEYOND);
        }
        paces.takeFrom(studio.rules);
        paces.step(n);
        return what == 0 ? paces.reader : paces.knob;
    }

    public int sign() {
        paces.takeFrom(studio.rules);
        paces.step(MOST_TURNS);
        return paces.habit();
    }

    public int round(int what) {
        if (!isWithin(what, 0, 1)) {
            return finding(BEYOND);
        }
        int length = rounds.lengthFrom(studio.rules);
        return what == 1 ? length : rounds.beginFrom(studio.rules, length);
    }

    public int leads() {
        paces.takeFrom(studio.rules);
        paces.step(MOST_TURNS);
        int sum = paces.reader + paces.knob;
        int fromReader = Math.abs(sum - 2 * studio.rules[READER_PACE]);
        int fromKnob = Math.abs(sum - 2 * studio.rules[KNOB_PACE]);
        if (fromReader == fromKnob) {
            return 2;
        }
        return fromReader < fromKnob ? 0 : 1;
    }

    public int found() {
        return searches.nearestWeights(studio);
    }

    public int off() {
        return searches.offHour(studio, searches.nearestWeights(studio));
    }

    // ---- grids, lines

    public int grid() {
        return searches.calmestEyes(studio);
    }

    public int worst() {
        int eyes = searches.calmestEyes(studio);
        return studio.unrestAhead(eyes / 10, eyes % 10);
    }

    public int trips() {
        return studio.lines == 0 ? finding(NONE) : searches.mostTripping(studio);
    }

    public int kindFor(int line) {
        return studio.isLine(line) ? searches.quickestKind(studio, line) : finding(BEYOND);
    }

    public int ease(int v) {
        if (!isWithin(v, 0, MOST_EASED)) {
            return finding(BEYOND);
        }
        int set = searches.fewestEased(studio, v);
        return set < 0 ? finding(NONE) : set;
    }

    public int fit() {
        return searches.bestLeftOut(studio);
    }

    public int kept() {
        return studio.wordsAheadWithout(searches.bestLeftOut(studio));
    }

    // ---- jumps

    public int jump(int from, int to) {
        if (!isWay(from, to)) {
            return finding(BEYOND);
        }
        ways.measure(studio, from, to);
        return ways.shortest(from);
    }

    public int jumped(int from, int to) {
        if (!isWay(from, to)) {
            return finding(BEYOND);
        }
        ways.measure(studio, from, to);
        return ways.linesRead(from, to);
    }

    // ---- tapes

    public int fits(int s) {
        if (!isSheet(s)) {
            return finding(BEYOND);
        }
        if (sheets[s].isMissing()) {
            return finding(MISSING);
        }
        searches.tallyFits(studio, sheets[s]);
        return searches.fitting;
    }

    public int led(int s) {
        if (!isSheet(s)) {
            return finding(BEYOND);
        }
        if (sheets[s].isMissing()) {
            return finding(MISSING);
        }
        searches.tallyFits(studio, sheets[s]);
        return searches.fitting == 0 ? finding(NONE) : searches.firstFitting;
    }

    public int part(int s, int what) {
        if (!isSheet(s)) {
            return finding(BEYOND);
        }
        if (sheets[s].isMissing()) {
            return finding(MISSING);
        }
        if (!isWithin(what, 0, 1)) {
            return finding(BEYOND);
        }
        searches.tallyFits(studio, sheets[s]);
        if (searches.fitting == 0) {
            return finding(NONE);
        }
        int common = commonDivisor(searches.fittingByReader, searches.fitting);
        return (what == 0 ? searches.fittingByReader : searches.fitting) / common;
    }

    // ---- evenings

    public long stays(int n, int what) {
        if (!isWithin(n, 0, MOST_STAYS) || !isWithin(what, 0, 1)) {
            return finding(BEYOND);
        }
        int staying = 10 - studio.rules[LEAVES];
        int base = (what == 0 ? staying : 10) / commonDivisor(staying, 10);
        long power = 1;
        for (int i = 0; i < n; i++) {
            power *= base;
        }
        return power;
    }

    public int evening(int n) {
        if (!isWithin(n, 1, MOST_LINES)) {
            return finding(BEYOND);
        }
        if (studio.linesAhead() == 0 || studio.clock > LATE_CLOCK) {
            return finding(STATE);
        }
        return studio.spendEvening(n, paces);
    }

    public int ahead(int n) {
        if (!isWithin(n, 0, MOST_EVENINGS)) {
            return finding(BEYOND);
        }
        int left = 0;
        int z = studio.z;
        for (int i = 0; i < n; i++) {
            draft.become(studio);
            draft.z = z;
            left += draft.spendEvening(MOST_LINES, paces);
            z = draft.z;
        }
        return left;
    }

    public int seed(int v) {
        int was = studio.z;
        studio.z = v;
        return was;
    }

    // ---- texts

    public int feed(int bytes, int n) {
        if (!isWithin(n, 1, 4)) {
            return finding(BEYOND);
        }
        if (tape.size > MOST_BYTES - n) {
            return finding(FULL);
        }
        tape.append(bytes, n);
        return tape.size;
    }

    public int wipe() {
        int had = tape.size;
        tape.size = 0;
        return had;
    }

    public int text() {
        draft.become(studio);
        int items = script.tellTo(draft, tape);
        if (items > 0) {
            studio.become(draft);
        }
        tape.size = 0;
        return items;
    }

    // ---- spots, sheets

    public int hold(int spot, int line) {
        if (!isWithin(spot, 0, SPOTS - 1) || !isWithin(line, -1, studio.lines - 1)) {
            return finding(BEYOND);
        }
        studio.spots[spot] = line;
        return 1;
    }

    public int as(int spot, int kind) {
        if (!isWithin(spot, 0, SPOTS - 1) || !isWithin(kind, LINE, BLANK)) {
            return finding(BEYOND);
        }
        int line = studio.spots[spot];
        if (!studio.isLine(line)) {
            return finding(MISSING);
        }
        return Kinds.isOrIsUnder(studio.kinds[line], kind) ? line : finding(OTHER_KIND);
    }

    public int sheet(int s, int bits, int n) {
        if (!isSheet(s) || !Sheet.canHave(bits)) {
            return finding(BEYOND);
        }
        if (n < 0) {
            return finding(SIZE);
        }
        if (n > MOST_NUMBERS) {
            return finding(BEYOND);
        }
        sheets[s].begin(bits, n);
        return sheets[s].size;
    }

    public int write(int s, int i, int v) {
        if (!isSheet(s)) {
            return finding(BEYOND);
        }
        if (sheets[s].isMissing()) {
            return finding(MISSING);
        }
        if (!isWithin(i, 0, sheets[s].size - 1)) {
            return finding(BEYOND);
        }
        sheets[s].put(i, v);
        return 1;
    }

    public int copy(int s, int from, int t, int to, int n) {
        if (!isSheet(s) || !isSheet(t)) {
            return finding(BEYOND);
        }
        Sheet source = sheets[s];
        Sheet target = sheets[t];
        if (source.isMissing() || target.isMissing()) {
            return finding(MISSING);
        }
        if (source.bits != target.bits) {
            return finding(OTHER_KIND);
        }
        if (!source.hasPart(from, n) || !target.hasPart(to, n)) {
            return finding(BEYOND);
        }
        System.arraycopy(source.numbers, from, target.numbers, to, n);
        return n;
    }

    public int load(int s) {
        if (!isSheet(s)) {
            return finding(BEYOND);
        }
        if (sheets[s].isMissing()) {
            return finding(MISSING);
        }
        return studio.takeWords(sheets[s]);
    }

    public int judge(int s) {
        if (!isSheet(s)) {
            return finding(BEYOND);
        }
        if (sheets[s].isMissing()) {
            return finding(MISSING);
        }
        return firstWrongTime(sheets[s]);
    }

    // ---- images

    public int image() {
        keptStudio.become(studio);
        imageIsKept = true;
        return 1;
    }

    public int undo() {
        if (!imageIsKept) {
            return finding(NONE);
        }
        studio.become(keptStudio);
        return studio.clock;
    }

    public int tear() {
        int torn = imageIsKept ? 1 : 0;
        imageIsKept = false;
        return torn;
    }

    public int count(int what) {
        switch (what) {
            case 0:
                return studio.clock;
            case 1:
                return studio.lines;
            case 2:
                return studio.at;
            case 3:
                return studio.sumOf(studio.words);
            case 4:
                return studio.sumOf(studio.hards);
            case 5:
                return tape.size;
            case 6:
                return studio.z;
            case 7:
                return studio.spotsHeld();
            default:
                return finding(BEYOND);
        }
    }

    public int status(int which) {
        if (!isWithin(which, -1, FINDINGS - 1)) {
            return finding(BEYOND);
        }
        if (which >= 0) {
            return findings[which];
        }
        int all = 0;
        for (int i = 0; i < FINDINGS; i++) {
            all += findings[i];
        }
        return all;
    }

    // ---- help for the face

    private int finding(int which) {
        findings[which]++;
        return LOW - which;
    }

    private boolean isSheet(int s) {
        return isWithin(s, 0, SHEETS - 1);
    }

    private boolean isWay(int from, int to) {
        return studio.isLine(from) && to > from && to <= studio.lines;
    }

    /** What the next n lines take; the paces are left as they are behind them. */
    private int takesAhead(int n) {
        paces.takeFrom(studio.rules);
        return studio.takesAhead(n, paces);
    }

    private int firstWrongTime(Sheet times) {
        paces.takeFrom(studio.rules);
        int clock = studio.clock;
        for (int i = 0; i < times.size; i++) {
            int line = studio.at + i;
            if (!studio.isLine(line)) {
                return 1 + i;
            }
            clock += studio.takesOf(line, paces.reader);
            if (times.numbers[i] != clock) {
                return 1 + i;
            }
            paces.step(1);
        }
        return 0;
    }

    private static boolean isWithin(int v, int least, int most) {
        return v >= least && v <= most;
    }

    /** The greatest number by which both can be divided; 1 at least, so that it may always divide. */
    private static int commonDivisor(int part, int whole) {
        for (int d = whole; d > 1; d--) {
            if (part % d == 0 && whole % d == 0) {
                return d;
            }
        }
        return 1;
    }

    /** What lines of each kind take, where they trip him, how his eyes are seen. */
    private static final class Kinds {

        private Kinds() {
        }

        static int takes(int kind, int words, int hard, int pace) {
            int plain = words * pace;
            switch (kind) {
                case LEVEL:
                    return Math.max(1, plain - 1);
                case SINKING:
                    return plain + hard;
                case RISING:
                    return plain + hard + hard / 2;
                case STOPPED:
                    return plain + 5 * hard;
                case OFF:
                    return plain + 5 * hard + 10;
                case BLANK:
                    return (plain + 5 * hard + 10) / 2;
                default:
                    return plain;
            }
        }

        static int tripsBy(int kind, int hard, int letters, int ahead) {
            int plain = Math.max(0, hard - ahead - letters);
            switch (kind) {
                case SINKING:
                    return plain + 1;
                case RISING:
                    return 2 * (plain + 1);
                case STOPPED:
                    return plain + hard;
                case OFF:
                case BLANK:
                    return (plain + hard) / 2;
                default:
                    return plain;
            }
        }

        static int seenBy(int kind, int letters, int ahead) {
            int plain = (ahead + 2 * letters) / 3;
            switch (kind) {
                case LEVEL:
                    return Math.max(0, plain - 1);
                case SINKING:
                    return plain + 2;
                case RISING:
                    return plain + 3;
                case BLANK:
                    return 5;
                default:
                    return plain;
            }
        }

        static boolean isOrIsUnder(int kind, int above) {
            int k = kind;
            for (int depth = 0; depth < KINDS && k >= 0 && k < KINDS; depth++) {
                if (k == above) {
                    return true;
                }
                k = KIND_ABOVE[k];
            }
            return false;
        }
    }

    /** The two paces, turned in thought. */
    private static final class Paces {

        private static final int LEAST = 1;
        private static final int MOST = 99;
        private static final int ASLEEP = 50;
        private static final int LONGEST_ROUND = 100;

        int reader;
        int knob;
        int readerWeight;
        int knobWeight;
        int readerDrift;
        int knobDrift;

        void takeFrom(int[] rules) {
            reader = rules[READER_PACE];
            knob = rules[KNOB_PACE];
            readerWeight = rules[READER_WEIGHT];
            knobWeight = rules[KNOB_WEIGHT];
            readerDrift = rules[READER_DRIFT];
            knobDrift = rules[KNOB_DRIFT];
        }

        void step(int turns) {
            for (int i = 0; i < turns; i++) {
                int nextReader = held(reader + readerWeight * (knob - reader) / 10 + readerDrift);
                knob = held(knob + knobWeight * (reader - knob) / 10 + knobDrift);
                reader = nextReader;
            }
        }

        boolean are(int otherReader, int otherKnob) {
            return reader == otherReader && knob == otherKnob;
        }

        /** 0 they hold, 1 they fall asleep, 2 they go round, 3 neither. */
        int habit() {
            int firstReader = reader;
            int firstKnob = knob;
            step(1);
            if (are(firstReader, firstKnob)) {
                return 0;
            }
            if (firstReader >= ASLEEP && firstKnob >= ASLEEP) {
                return 1;
            }
            for (int turns = 2; turns <= LONGEST_ROUND; turns++) {
                step(1);
                if (are(firstReader, firstKnob)) {
                    return 2;
                }
            }
            return 3;
        }

        private static int held(int pace) {
            return Math.max(LEAST, Math.min(MOST, pace));
        }
    }

    /** Finds by two pairs of paces where they come again, so that no row of all pairs need be kept. */
    private static final class Rounds {

        /** Far above the 99 times 99 pairs that there are. */
        private static final int MOST_STEPS = 100000;

        private final Paces slow = new Paces();
        private final Paces quick = new Paces();

        int lengthFrom(int[] rules) {
            slow.takeFrom(rules);
            quick.takeFrom(rules);
            int length = 0;
            int reach = 1;
            for (int i = 0; i < MOST_STEPS; i++) {
                quick.step(1);
                length++;
                if (quick.are(slow.reader, slow.knob)) {
                    break;
                }
                if (length == reach) {
                    slow.reader = quick.reader;
                    slow.knob = quick.knob;
                    reach *= 2;
                    length = 0;
                }
            }
            return length;
        }

        int beginFrom(int[] rules, int length) {
            slow.takeFrom(rules);
            quick.takeFrom(rules);
            quick.step(length);
            int begin = 0;
            while (begin < MOST_STEPS && !quick.are(slow.reader, slow.knob)) {
                slow.step(1);
                quick.step(1);
                begin++;
            }
            return begin;
        }
    }

    /** All that an image keeps. */
    private static final class Studio {

        final int[] kinds = new int[MOST_LINES];
        final int[] words = new int[MOST_LINES];
        final int[] hards = new int[MOST_LINES];
        final int[] rules = new int[RULES];
        final int[] spots = new int[SPOTS];
        int lines;
        int at;
        int clock;
        int tripped;
        int looked;
        int z = 1;

        Studio() {
            System.arraycopy(FIRST_RULE, 0, rules, 0, RULES);
            Arrays.fill(spots, -1);
        }

        void become(Studio other) {
            System.arraycopy(other.kinds, 0, kinds, 0, MOST_LINES);
            System.arraycopy(other.words, 0, words, 0, MOST_LINES);
            System.arraycopy(other.hards, 0, hards, 0, MOST_LINES);
            System.arraycopy(other.rules, 0, rules, 0, RULES);
            System.arraycopy(other.spots, 0, spots, 0, SPOTS);
            lines = other.lines;
            at = other.at;
            clock = other.clock;
            tripped = other.tripped;
            looked = other.looked;
            z = other.z;
        }

        boolean isLine(int line) {
            return line >= 0 && line < lines;
        }

        boolean hasRoom() {
            return lines < MOST_LINES;
        }

        /** Asks for room first: hasRoom(). */
        int addLine(int kind) {
            kinds[lines] = kind;
            words[lines] = FIRST_WORDS;
            hards[lines] = 0;
            lines++;
            return lines - 1;
        }

        int[] features(int what) {
            if (what == 0) {
                return kinds;
            }
            return what == 1 ? words : hards;
        }

        int sumOf(int[] row) {
            int sum = 0;
            for (int i = 0; i < lines; i++) {
                sum += row[i];
            }
            return sum;
        }

        int spotsHeld() {
            int held = 0;
            for (int i = 0; i < SPOTS; i++) {
                if (spots[i] >= 0) {
                    held++;
                }
            }
            return held;
        }

        int linesAhead() {
            return lines - at;
        }

        int takesOf(int line, int pace) {
            return Kinds.takes(kinds[line], words[line], hards[line], pace);
        }

        int tripsOf(int line) {
            return Kinds.tripsBy(kinds[line], hards[line], rules[LETTERS], rules[EYES_AHEAD]);
        }

        int seenOf(int line) {
            return Kinds.seenBy(kinds[line], rules[LETTERS], rules[EYES_AHEAD]);
        }

        /** What n lines from AT on take (there are as many), by paces that turn behind each. */
        int takesAhead(int n, Paces paces) {
            int takes = 0;
            for (int line = at; line < at + n; line++) {
                takes += takesOf(line, paces.reader);
                paces.step(1);
            }
            return takes;
        }

        int tripsAhead() {
            int sum = 0;
            for (int line = at; line < lines; line++) {
                sum += tripsOf(line);
            }
            return sum;
        }

        int seenAhead() {
            int sum = 0;
            for (int line = at; line < lines; line++) {
                sum += seenOf(line);
            }
            return sum;
        }

        int unrestAhead(int letters, int ahead) {
            int sum = 0;
            for (int line = at; line < lines; line++) {
                sum += Kinds.tripsBy(kinds[line], hards[line], letters, ahead);
                sum += Kinds.seenBy(kinds[line], letters, ahead);
            }
            return sum;
        }

        int wordsAheadWithout(int leftOut) {
            int sum = 0;
            for (int line = at; line < lines; line++) {
                if ((leftOut >> line & 1) == 0) {
                    sum += words[line];
                }
            }
            return sum;
        }

        int takeWords(Sheet sheet) {
            int came = 0;
            while (came < sheet.size && came < lines && isWithin(sheet.numbers[came], LEAST_WORDS, MOST_WORDS)) {
                words[came] = sheet.numbers[came];
                came++;
            }
            return came;
        }

        void turnPaces(Paces paces) {
            paces.takeFrom(rules);
            paces.step(1);
            rules[READER_PACE] = paces.reader;
            rules[KNOB_PACE] = paces.knob;
        }

        /** Asks for a line first: linesAhead(). */
        void readOne(Paces paces) {
            clock += takesOf(at, rules[READER_PACE]);
            tripped += tripsOf(at);
            looked += seenOf(at);
            turnPaces(paces);
            at++;
        }

        int draw() {
            z = z * 1103515245 + 12345;
            return z >>> 8;
        }

        /** How often he left the text. */
        int spendEvening(int n, Paces paces) {
            int left = 0;
            for (int i = 0; i < n && at < lines; i++) {
                readOne(paces);
                if (draw() % 10 < rules[LEAVES]) {
                    left++;
                    clock += rules[READER_PACE] * (1 + draw() % 8);
                    at = Math.min(lines, at + draw() % 3);
                }
            }
            return left;
        }
    }

    /** What is found by going through grids and sets; the first that would do has the least number. */
    private static final class Searches {

        /** Twelve lines take, trip and are seen far less. */
        private static final int MORE_THAN_ALL = 1000000;

        private final Paces paces = new Paces();
        private final int[] eased = new int[MOST_LINES];
        int fitting;
        int fittingByReader;
        int firstFitting;

        int nearestWeights(Studio studio) {
            int best = 0;
            int least = offHour(studio, 0);
            for (int weights = 1; weights < WEIGHTS * WEIGHTS; weights++) {
                int far = offHour(studio, weights);
                if (far < least) {
                    least = far;
                    best = weights;
                }
            }
            return best;
        }

        int offHour(Studio studio, int weights) {
            weigh(studio, weights);
            return Math.abs(studio.takesAhead(studio.linesAhead(), paces) - studio.rules[HOUR]);
        }

        private void weigh(Studio studio, int weights) {
            paces.takeFrom(studio.rules);
            paces.readerWeight = weights / WEIGHTS;
            paces.knobWeight = weights % WEIGHTS;
        }

        int calmestEyes(Studio studio) {
            int best = 10 * LEAST_RULE[LETTERS] + LEAST_RULE[EYES_AHEAD];
            int least = MORE_THAN_ALL;
            for (int letters = LEAST_RULE[LETTERS]; letters <= MOST_RULE[LETTERS]; letters++) {
                for (int ahead = LEAST_RULE[EYES_AHEAD]; ahead <= MOST_RULE[EYES_AHEAD]; ahead++) {
                    int unrest = studio.unrestAhead(letters, ahead);
                    if (unrest < least) {
                        least = unrest;
                        best = 10 * letters + ahead;
                    }
                }
            }
            return best;
        }

        int mostTripping(Studio studio) {
            int best = 0;
            int most = -1;
            for (int line = 0; line < studio.lines; line++) {
                int trips = studio.tripsOf(line);
                if (trips > most) {
                    most = trips;
                    best = line;
                }
            }
            return best;
        }

        int quickestKind(Studio studio, int line) {
            int was = studio.kinds[line];
            int best = LINE;
            int least = MORE_THAN_ALL;
            for (int kind = LINE; kind <= BLANK; kind++) {
                studio.kinds[line] = kind;
                paces.takeFrom(studio.rules);
                int takes = studio.takesAhead(studio.linesAhead(), paces);
                if (takes < least) {
                    least = takes;
                    best = kind;
                }
            }
            studio.kinds[line] = was;
            return best;
        }

        /** -1: no set would do. */
        int fewestEased(Studio studio, int most) {
            int n = studio.linesAhead();
            for (int i = 0; i < n; i++) {
                int line = studio.at + i;
                int letters = studio.rules[LETTERS];
                int ahead = studio.rules[EYES_AHEAD];
                eased[i] = studio.tripsOf(line) - Kinds.tripsBy(studio.kinds[line], 0, letters, ahead);
            }
            int tooMany = studio.tripsAhead() - most;
            int best = -1;
            int fewest = n + 1;
            for (int set = 0; set < 1 << n; set++) {
                int size = Integer.bitCount(set);
                if (size < fewest && easedBy(set, n) >= tooMany) {
                    fewest = size;
                    best = set << studio.at;
                }
            }
            return best;
        }

        private int easedBy(int set, int n) {
            int sum = 0;
            for (int i = 0; i < n; i++) {
                if ((set >> i & 1) == 1) {
                    sum += eased[i];
                }
            }
            return sum;
        }

        int bestLeftOut(Studio studio) {
            int n = studio.linesAhead();
            int best = 0;
            int most = -1;
            for (int set = 0; set < 1 << n; set++) {
                int leftOut = set << studio.at;
                int words = studio.wordsAheadWithout(leftOut);
                if (words > most && fitsHourWithout(studio, leftOut)) {
                    most = words;
                    best = leftOut;
                }
            }
            return best;
        }

        private boolean fitsHourWithout(Studio studio, int leftOut) {
            paces.takeFrom(studio.rules);
            int left = studio.rules[HOUR];
            for (int line = studio.at; line < studio.lines && left >= 0; line++) {
                if ((leftOut >> line & 1) == 0) {
                    left -= studio.takesOf(line, paces.reader);
                    paces.step(1);
                }
            }
            return left >= 0;
        }

        void tallyFits(Studio studio, Sheet sheet) {
            fitting = 0;
            fittingByReader = 0;
            firstFitting = 0;
            for (int weights = 0; weights < WEIGHTS * WEIGHTS; weights++) {
                weigh(studio, weights);
                if (takeJust(studio, sheet)) {
                    if (fitting == 0) {
                        firstFitting = weights;
                    }
                    fitting++;
                    if (weights / WEIGHTS < weights % WEIGHTS) {
                        fittingByReader++;
                    }
                }
            }
        }

        private boolean takeJust(Studio studio, Sheet sheet) {
            int n = Math.min(sheet.size, studio.linesAhead());
            for (int i = 0; i < n; i++) {
                if (studio.takesOf(studio.at + i, paces.reader) != sheet.numbers[i]) {
                    return false;
                }
                paces.step(1);
            }
            return true;
        }
    }

    /** The shortest ways by jumps: from each line to the last one, and from it if a jump has just ended there. */
    private static final class Ways {

        private static final int MOST_OVER = 3;
        private static final int JUMP_TAKES = 7;
        private static final int OVER_TAKES = 3;

        private final int[] reading = new int[MOST_LINES];
        private final int[] best = new int[MOST_LINES + 1];
        private final int[] behindJump = new int[MOST_LINES + 1];

        void measure(Studio studio, int from, int to) {
            best[to] = 0;
            behindJump[to] = 0;
            for (int line = to - 1; line >= from; line--) {
                reading[line] = studio.takesOf(line, studio.rules[READER_PACE]);
                behindJump[line] = reading[line] + best[line + 1];
                best[line] = behindJump[line];
                for (int over = 1; over <= MOST_OVER && line + over + 1 <= to; over++) {
                    best[line] = Math.min(best[line], byJump(line, over));
                }
            }
        }

        int shortest(int from) {
            return best[from];
        }

        /** Goes by what was measured. */
        int linesRead(int from, int to) {
            int set = 0;
            int line = from;
            while (line < to) {
                int over = best[line] == behindJump[line] ? 0 : shortestJump(line, to);
                if (over > 0) {
                    line += over + 1;
                }
                if (line < to) {
                    set |= 1 << line;
                    line++;
                }
            }
            return set;
        }

        private int shortestJump(int line, int to) {
            for (int over = 1; over <= MOST_OVER && line + over + 1 <= to; over++) {
                if (byJump(line, over) == best[line]) {
                    return over;
                }
            }
            return 0;
        }

        private int byJump(int line, int over) {
            return JUMP_TAKES + OVER_TAKES * over + behindJump[line + over + 1];
        }
    }

    private static final class Tape {

        final int[] bytes = new int[MOST_BYTES];
        int size;

        /** Asks for room first. */
        void append(int number, int n) {
            for (int i = n - 1; i >= 0; i--) {
                bytes[size] = number >> 8 * i & 255;
                size++;
            }
        }
    }

    /** Reads a text; where an item can't go on, the token that is looked at then is the fault. */
    private static final class Script {

        private static final int END = 0;
        private static final int WORD = 1;
        private static final int NUMBER = 2;
        private static final int SEMICOLON = 3;
        private static final int MINUS = 4;
        private static final int NOTHING = 5;
        private static final int TOO_HIGH = 100000;

        private Tape tape;
        private Studio studio;
        private int token;
        private int start;
        private int next;
        private int value;

        /** How many items there are; with a fault -1 less its place. */
        int tellTo(Studio told, Tape source) {
            studio = told;
            tape = source;
            next = 0;
            lookOn();
            for (int items = 1; items <= MOST_BYTES; items++) {
                if (!takeItem()) {
                    return -1 - start;
                }
                if (token == END) {
                    return items;
                }
                if (token != SEMICOLON) {
                    return -1 - start;
                }
                lookOn();
            }
            return -1 - start;
        }

        private boolean takeItem() {
            if (token != WORD) {
                return false;
            }
            for (int kind = LINE; kind <= BLANK; kind++) {
                if (isWord(nameOf(kind))) {
                    return takeLine(kind);
                }
            }
            if (isWord("reader")) {
                return takePace(0);
            }
            if (isWord("knob")) {
                return takePace(1);
            }
            if (isWord("letters")) {
                return takeRule(LETTERS);
            }
            if (isWord("ahead")) {
                return takeRule(EYES_AHEAD);
            }
            if (isWord("leaves")) {
                return takeRule(LEAVES);
            }
            return isWord("hour") && takeRule(HOUR);
        }

        private boolean takeLine(int kind) {
            if (!studio.hasRoom()) {
                return false;
            }
            int line = studio.addLine(kind);
            lookOn();
            return takeFeature("words", 1, line) && takeFeature("hard", 2, line);
        }

        /** True, too, if the feature isn't told. */
        private boolean takeFeature(String name, int what, int line) {
            if (!isWord(name)) {
                return true;
            }
            lookOn();
            if (!isNumber(LEAST_FEATURE[what], MOST_FEATURE[what])) {
                return false;
            }
            studio.features(what)[line] = value;
            lookOn();
            return true;
        }

        /** Rules of the knob stand one behind those of the reader. */
        private boolean takePace(int who) {
            if (!takeRule(READER_PACE + who)) {
                return false;
            }
            if (isWord("weight") && !takeRule(READER_WEIGHT + who)) {
                return false;
            }
            return !isWord("drift") || takeDrift(READER_DRIFT + who);
        }

        /** A rule's word and its number. */
        private boolean takeRule(int rule) {
            lookOn();
            if (!isNumber(LEAST_RULE[rule], MOST_RULE[rule])) {
                return false;
            }
            studio.rules[rule] = value;
            lookOn();
            return true;
        }

        private boolean takeDrift(int rule) {
            lookOn();
            int sign = 1;
            if (token == MINUS) {
                sign = -1;
                lookOn();
            }
            if (!isNumber(0, MOST_RULE[rule])) {
                return false;
            }
            studio.rules[rule] = sign * value;
            lookOn();
            return true;
        }

        private boolean isNumber(int least, int most) {
            return token == NUMBER && isWithin(value, least, most);
        }

        private boolean isWord(String name) {
            if (token != WORD || next - start != name.length()) {
                return false;
            }
            for (int i = 0; i < name.length(); i++) {
                if (tape.bytes[start + i] != name.charAt(i)) {
                    return false;
                }
            }
            return true;
        }

        private static String nameOf(int kind) {
            switch (kind) {
                case LEVEL:
                    return "level";
                case SINKING:
                    return "sinking";
                case RISING:
                    return "rising";
                case STOPPED:
                    return "stopped";
                case OFF:
                    return "off";
                case BLANK:
                    return "blank";
                default:
                    return "line";
            }
        }

        /** Looks at the next token: what it is, where it starts, its value. */
        private void lookOn() {
            while (next < tape.size && tape.bytes[next] == ' ') {
                next++;
            }
            start = next;
            if (start >= tape.size) {
                token = END;
            } else if (isLetter(start)) {
                token = WORD;
                while (next < tape.size && isLetter(next)) {
                    next++;
                }
            } else if (isDigit(start)) {
                token = NUMBER;
                value = 0;
                while (next < tape.size && isDigit(next)) {
                    value = Math.min(TOO_HIGH, 10 * value + tape.bytes[next] - '0');
                    next++;
                }
            } else {
                token = signAt(start);
                next++;
            }
        }

        private int signAt(int place) {
            if (tape.bytes[place] == ';') {
                return SEMICOLON;
            }
            return tape.bytes[place] == '-' ? MINUS : NOTHING;
        }

        private boolean isLetter(int place) {
            return place < tape.size && tape.bytes[place] >= 'a' && tape.bytes[place] <= 'z';
        }

        private boolean isDigit(int place) {
            return place < tape.size && tape.bytes[place] >= '0' && tape.bytes[place] <= '9';
        }
    }

    private static final class Sheet {

        final int[] numbers = new int[MOST_NUMBERS];
        int bits;
        int size;

        static boolean canHave(int bits) {
            return bits == 0 || bits == 8 || bits == 16 || bits == 32;
        }

        boolean isMissing() {
            return bits == 0;
        }

        void begin(int newBits, int n) {
            bits = newBits;
            size = newBits == 0 ? 0 : n;
            Arrays.fill(numbers, 0);
        }

        boolean hasPart(int from, int n) {
            return from >= 0 && n >= 0 && from <= size - n;
        }

        void put(int i, int v) {
            if (bits == 8) {
                numbers[i] = (byte) v;
            } else if (bits == 16) {
                numbers[i] = (short) v;
            } else {
                numbers[i] = v;
            }
        }
    }
}
