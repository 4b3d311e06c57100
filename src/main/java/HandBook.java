import java.util.Arrays;

/** A book of steps that people do on a works, read as a program whose machine slips. */
public final class HandBook {
    public static final int NONE = -1000000, BAD = -1000001, STATE = -1000002, FULL = -1000003;

    private static final int FINDINGS = -1000010;
    private static final int NULL = 1, PLACE = 2, KIND = 3, SIZE = 4, STORE = 5;
    private static final int FAULTS = -1000100;

    private static final int SHEETS = 8, ITEMS = 40, DAYS = 20;
    private static final int TAPE = 400, FEED = 8;
    private static final int VALVES = 4, HEIGHTS = 2, TOP = 7, STATES = 1024;
    private static final int FLOWS = 8, LINES = 4, LINE_CONDS = 3, STEPS = 16;
    private static final int PLACES = (STEPS + 1) * STATES;
    private static final int SLIPS = 4, MOST_PRICE = 99, MOST_SLIPS = 2;

    private final Sheet[] sheets = new Sheet[SHEETS];
    private final Works works = new Works();
    private final Steps steps = new Steps();
    private final Hands hands = new Hands(works, steps);
    private final Tape tape = new Tape();
    private final Reader reader = new Reader(tape, works, steps);
    private final Walks walks;
    private final Through plays;
    private final Cheapest harm;
    private int finding;
    private int latestFault;

    public HandBook() {
        for (int i = 0; i < SHEETS; i++) {
            sheets[i] = new Sheet();
        }
        Rows rows = new Rows();
        walks = new Walks(hands, rows);
        plays = new Through(hands, rows);
        harm = new Cheapest(hands, rows);
    }

    // ---- sheets

    public int sheet(int sheet, int lane, int n) {
        if (!isSheet(sheet) || !isBelow(lane, Sheet.LANES) || n > ITEMS) {
            return BAD;
        }
        if (n < 0) {
            return found(SIZE);
        }
        sheets[sheet].lay(lane, n);
        return fine(n);
    }

    public int set(int sheet, int i, int v) {
        if (!isSheet(sheet)) {
            return BAD;
        }
        Sheet s = sheets[sheet];
        if (!s.there) {
            return found(NULL);
        }
        if (!s.has(i, 1)) {
            return found(PLACE);
        }
        s.items[i] = s.cut(v);
        return fine(s.items[i]);
    }

    public int copy(int a, int i, int b, int j, int n) {
        if (!isSheet(a) || !isSheet(b)) {
            return BAD;
        }
        Sheet from = sheets[a];
        Sheet to = sheets[b];
        if (!from.there || !to.there) {
            return found(NULL);
        }
        if (from.lane != to.lane) {
            return found(STORE);
        }
        if (!from.has(i, n) || !to.has(j, n)) {
            return found(PLACE);
        }
        System.arraycopy(from.items, i, to.items, j, n);
        return fine(n);
    }

    public int drop(int sheet) {
        if (!isSheet(sheet)) {
            return BAD;
        }
        Sheet s = sheets[sheet];
        if (!s.there) {
            return found(NULL);
        }
        s.there = false;
        return fine(s.n);
    }

    // ---- books, works

    public int feed(long w, int n) {
        if (n < 1 || n > FEED) {
            return BAD;
        }
        return tape.take(w, n) ? tape.size : FULL;
    }

    public int book() {
        if (reader.readAll()) {
            return steps.n;
        }
        latestFault = reader.faultNumber;
        return FAULTS - reader.faultPlace;
    }

    public int fault() {
        return latestFault;
    }

    public int like(int valve, int other) {
        if (!isBelow(valve, VALVES) || valve == other) {
            return BAD;
        }
        if (other != NONE && !isBelow(other, VALVES)) {
            return BAD;
        }
        hands.likes[valve] = other;
        return 1;
    }

    public int price(int slip, int v) {
        if (!isBelow(slip, SLIPS) || v < 1 || v > MOST_PRICE) {
            return BAD;
        }
        int was = hands.prices[slip];
        hands.prices[slip] = v;
        return was;
    }

    public int bar(int a, int b, int is) {
        if (!isBelow(a, VALVES) || !isBelow(b, VALVES) || a == b || !isBelow(is, 2)) {
            return BAD;
        }
        int bit = 4 * a + b;
        int was = works.bars >> bit & 1;
        works.bars = works.bars & ~(1 << bit) | is << bit;
        return was;
    }

    public int tick(int state) {
        return isState(state) ? works.behind[state] : BAD;
    }

    public int judge(int state, int what) {
        if (!isState(state) || !isBelow(what, 2)) {
            return BAD;
        }
        return asNumber(what == 0 ? works.bad[state] : works.good[state]);
    }

    public int days(int sheet, int i, int n) {
        if (!isSheet(sheet) || n < 1 || n > DAYS) {
            return BAD;
        }
        Sheet s = sheets[sheet];
        if (!s.there) {
            return found(NULL);
        }
        if (!s.has(i, n)) {
            return found(PLACE);
        }
        int bad = 0;
        for (int k = i; k < i + n; k++) {
            if (!isState(s.items[k])) {
                return BAD;
            }
            bad += asNumber(works.bad[s.items[k]]);
        }
        return fine(bad);
    }

    // ---- runs

    public int on(int step, int state) {
        if (!isBelow(step, STEPS + 1) || !isState(state)) {
            return BAD;
        }
        return hands.goingOn(step * STATES + state);
    }

    public int slip(int step, int state, int slip) {
        if (!isBelow(step, STEPS + 1) || !isState(state) || !isBelow(slip, SLIPS)) {
            return BAD;
        }
        return hands.slipping(step * STATES + state, slip);
    }

    public int run(int state, int what) {
        if (!isState(state) || !isBelow(what, 3)) {
            return BAD;
        }
        walks.walk(state);
        if (what == 2) {
            return asNumber(walks.harmed);
        }
        return what == 0 ? walks.endState : walks.ticks;
    }

    public int through(int state, int n, int what) {
        if (!isState(state) || !isBelow(n, MOST_SLIPS + 1) || !isBelow(what, Through.WHATS)) {
            return BAD;
        }
        return plays.explore(state, n, what);
    }

    public int cheapest(int state, int what) {
        if (!isState(state) || !isBelow(what, 2)) {
            return BAD;
        }
        harm.seek(state);
        return what == 0 ? harm.cost : harm.firstSlip;
    }

    public int back(int state, int what) {
        if (!isState(state) || !isBelow(what, 2)) {
            return BAD;
        }
        walks.seekGood(state);
        return what == 0 ? walks.deeds : walks.firstDeed;
    }

    public int shows(int state, int step, int slip) {
        if (!isState(state) || !steps.has(step) || !isBelow(slip, SLIPS)) {
            return BAD;
        }
        return walks.firstUnlike(state, step, slip);
    }

    public int fewest(int state, int what) {
        if (!isState(state) || !isBelow(what, 2)) {
            return BAD;
        }
        int bars = plays.leastBars(state);
        return bars == NONE || what == 1 ? bars : Integer.bitCount(bars);
    }

    // ---- asked

    public int kind(int step) {
        return steps.has(step) ? steps.kindOf(step) : BAD;
    }

    public int as(int step, int kind) {
        if (!steps.has(step) || !isBelow(kind, Steps.KINDS)) {
            return BAD;
        }
        return steps.isOfKind(step, kind) ? fine(step) : found(KIND);
    }

    public int ask(int step, int what) {
        if (!steps.has(step) || !isBelow(what, 2)) {
            return BAD;
        }
        return steps.answer(step, what);
    }

    public int trace(int i) {
        return isBelow(i, steps.traced) ? steps.trace[i] : NONE;
    }

    public int count(int what) {
        switch (what) {
            case 0: return sheetsThere();
            case 1: return steps.n;
            case 2: return works.flows;
            case 3: return works.badLines.n;
            case 4: return works.goodLines.n;
            case 5: return Integer.bitCount(works.bars);
            case 6: return tape.size;
            default: return BAD;
        }
    }

    public int status() {
        return finding;
    }

    private int found(int number) {
        finding = number;
        return FINDINGS - number;
    }

    private int fine(int answer) {
        finding = 0;
        return answer;
    }

    private int sheetsThere() {
        int there = 0;
        for (int i = 0; i < SHEETS; i++) {
            there += asNumber(sheets[i].there);
        }
        return there;
    }

    private static boolean isSheet(int sheet) {
        return isBelow(sheet, SHEETS);
    }

    private static boolean isState(int state) {
        return isBelow(state, STATES);
    }

    private static boolean isBelow(int v, int bound) {
        return v >= 0 && v < bound;
    }

    private static int asNumber(boolean is) {
        return is ? 1 : 0;
    }

    /** Keeps the row of a sheet that is missing, so that laying one anew makes nothing. */
    private static final class Sheet {
        static final int BYTES = 0, SHORTS = 1, LANES = 3;

        final int[] items = new int[ITEMS];
        boolean there;
        int lane;
        int n;

        void lay(int newLane, int size) {
            there = true;
            lane = newLane;
            n = size;
            Arrays.fill(items, 0);
        }

        // Written without i + size, which could wrap around.
        boolean has(int i, int size) {
            return i >= 0 && size >= 0 && i <= n && size <= n - i;
        }

        int cut(int v) {
            if (lane == BYTES) {
                return (byte) v;
            }
            return lane == SHORTS ? (short) v : v;
        }
    }

    /** Lines of conds. A text that is being read writes behind n; keeping it moves n. */
    private static final class Lines {
        final int[] conds = new int[LINES * LINE_CONDS];
        final int[] sizes = new int[LINES];
        int n;
        int drafted;

        void draftCond(int i, int cond) {
            if (drafted < LINES && isBelow(i, LINE_CONDS)) {
                conds[drafted * LINE_CONDS + i] = cond;
                sizes[drafted] = i + 1;
            }
        }

        /** How many lines have conds that all hold. */
        int holding(int state) {
            int lines = 0;
            for (int line = 0; line < n; line++) {
                int first = line * LINE_CONDS;
                int i = first;
                while (i < first + sizes[line] && Works.holds(conds[i], state)) {
                    i++;
                }
                lines += asNumber(i == first + sizes[line]);
            }
            return lines;
        }
    }

    /** Valves, heights and what flows between them; which states are bad or good; bars. */
    private static final class Works {
        static final int OPEN = 0, SHUT = 1, ABOVE = 2, BELOW = 3;

        final Lines badLines = new Lines();
        final Lines goodLines = new Lines();
        final int[] flowValves = new int[FLOWS];
        final int[] flowHeights = new int[FLOWS];
        final int[] flowRises = new int[FLOWS];
        // Told of every state when a text is kept, as searches ask for them far more often.
        final int[] behind = new int[STATES];
        final boolean[] bad = new boolean[STATES];
        final boolean[] good = new boolean[STATES];
        int flows;
        int flowsDrafted;
        int bars;

        Works() {
            tellStates();
        }

        static int condOf(int sort, int of, int level) {
            return sort << 6 | of << 3 | level;
        }

        static boolean holds(int cond, int state) {
            int of = cond >> 3 & 7;
            int height = state >> VALVES + 3 * of & TOP;
            switch (cond >> 6) {
                case OPEN: return (state >> of & 1) == 1;
                case SHUT: return (state >> of & 1) == 0;
                case ABOVE: return height > (cond & 7);
                default: return height < (cond & 7);
            }
        }

        /** The state behind a deed and its tick; a bar leaves the valve as it is. */
        int behindDeed(int state, int valve, boolean opens) {
            int bit = 1 << valve;
            if (!opens) {
                return behind[state & ~bit];
            }
            boolean barred = (bars >> 4 * valve & 15 & state) != 0;
            return behind[barred ? state : state | bit];
        }

        void draftFlow(int valve, int height, int rise) {
            if (flowsDrafted < FLOWS) {
                flowValves[flowsDrafted] = valve;
                flowHeights[flowsDrafted] = height;
                flowRises[flowsDrafted] = rise;
                flowsDrafted++;
            }
        }

        void beginDraft() {
            flowsDrafted = flows;
            badLines.drafted = badLines.n;
            goodLines.drafted = goodLines.n;
        }

        void keepDraft() {
            flows = flowsDrafted;
            badLines.n = badLines.drafted;
            goodLines.n = goodLines.drafted;
            tellStates();
        }

        private void tellStates() {
            for (int open = 0; open < 1 << VALVES; open++) {
                int rise0 = riseOf(open, 0);
                int rise1 = riseOf(open, 1);
                for (int levels = 0; levels < STATES >> VALVES; levels++) {
                    int state = levels << VALVES | open;
                    int level0 = within((levels & TOP) + rise0);
                    int level1 = within((levels >> 3) + rise1);
                    behind[state] = open | level0 << 4 | level1 << 7;
                    bad[state] = badLines.holding(state) > 0;
                    good[state] = !bad[state] && goodLines.holding(state) == goodLines.n;
                }
            }
        }

        private int riseOf(int open, int height) {
            int rise = 0;
            for (int i = 0; i < flows; i++) {
                if (flowHeights[i] == height && (open >> flowValves[i] & 1) == 1) {
                    rise += flowRises[i];
                }
            }
            return rise;
        }

        private static int within(int level) {
            return Math.max(0, Math.min(TOP, level));
        }
    }

    /**
     * The steps of the book, and the asks of them by numbered bodies. A text that is being read
     * writes behind n, as with lines.
     */
    private static final class Steps {
        static final int OPEN = 0, SHUT = 1, WAIT = 2, IF = 3, GO = 4, END = 5;
        static final int STEP = 0, DEED = 1, OPENS = 2, WAITS = 3, TURN = 4, LAST = 5, KINDS = 6;
        static final int TRACE = 16, DEEPEST = 8;

        final int[] acts = new int[STEPS];
        final int[] targets = new int[STEPS];
        final int[] conds = new int[STEPS];
        final int[] trace = new int[TRACE];
        int n;
        int drafted;
        int traced;

        boolean has(int step) {
            return step >= 0 && step < n;
        }

        boolean isDeed(int step) {
            return acts[step] == OPEN || acts[step] == SHUT;
        }

        void draftStep(int act, int target, int cond) {
            if (drafted < STEPS) {
                acts[drafted] = act;
                targets[drafted] = target;
                conds[drafted] = cond;
                drafted++;
            }
        }

        int kindOf(int step) {
            switch (acts[step]) {
                case OPEN: return OPENS;
                case SHUT: return DEED;
                case WAIT: return WAITS;
                case END: return LAST;
                default: return TURN;
            }
        }

        boolean isOfKind(int step, int kind) {
            int told = kindOf(step);
            switch (kind) {
                case STEP: return true;
                case DEED: return told == DEED || told == OPENS;
                case TURN: return told == TURN || told == LAST;
                default: return told == kind;
            }
        }

        int goingTo(int step) {
            int going = 0;
            for (int i = 0; i < n; i++) {
                if ((acts[i] == IF || acts[i] == GO) && targets[i] == step) {
                    going++;
                }
            }
            return going;
        }

        int answer(int step, int what) {
            traced = 0;
            return begin(what == 0 ? sizeBody(step) : markBody(step), step, 0);
        }

        private int sizeBody(int step) {
            switch (kindOf(step)) {
                case DEED: return 11;
                case OPENS: return 12;
                case WAITS: return 13;
                case TURN: return 14;
                case LAST: return 15;
                default: return 10;
            }
        }

        private int markBody(int step) {
            switch (kindOf(step)) {
                case DEED:
                case OPENS: return 21;
                case WAITS: return 22;
                case LAST: return 23;
                default: return 20;
            }
        }

        private int begin(int body, int step, int depth) {
            if (depth >= DEEPEST) {
                return 0;
            }
            leave(body);
            int deeper = depth + 1;
            switch (body) {
                case 10: return goingTo(step);
                case 11: return begin(10, step, deeper) + begin(markBody(step), step, deeper);
                case 12: return 2 * begin(11, step, deeper);
                case 13: return begin(10, step, deeper) + 50;
                case 14: return begin(10, step, deeper) - begin(markBody(step), step, deeper);
                case 15: return 2 * begin(14, step, deeper);
                case 21: return begin(20, step, deeper) + 100 * targets[step];
                case 22: return begin(20, step, deeper) + begin(sizeBody(step), step, deeper);
                case 23: return begin(20, step, deeper) + n;
                default: return step;
            }
        }

        private void leave(int body) {
            if (traced < TRACE) {
                trace[traced] = body;
                traced++;
            }
        }
    }

    /** The bytes fed, and the tokens that they make. */
    private static final class Tape {
        // A name's code is its number in this row of words, each of which ends with a blank.
        static final String WORDS = "flow bad good step and up down open shut above below wait if go end ";
        static final int FLOW = 0, BAD_LINE = 1, GOOD_LINE = 2, STEP = 3, AND = 4, UP = 5, DOWN = 6;
        static final int OPEN = 7, SHUT = 8, ABOVE = 9, BELOW = 10, WAIT = 11, IF = 12, GO = 13, END = 14;
        static final int SIGN = 20, TAPE_END = 21, NO_TOKEN = 22;
        // A number's code is this and the number.
        static final int NUMBER = 100;
        static final int FIGURES = 2;

        final int[] bytes = new int[TAPE];
        final int[] starts = new int[TAPE + 1];
        final int[] codes = new int[TAPE + 1];
        int size;

        boolean take(long w, int n) {
            if (n > TAPE - size) {
                return false;
            }
            for (int i = n - 1; i >= 0; i--) {
                bytes[size] = (int) (w >> 8 * i) & 255;
                size++;
            }
            return true;
        }

        void split() {
            int n = 0;
            for (int i = 0; i < size; i++) {
                boolean blank = bytes[i] == 32 || bytes[i] == 10;
                if (!blank && !goesOn(i)) {
                    starts[n] = i;
                    codes[n] = codeOf(i, endOfToken(i));
                    n++;
                }
            }
            starts[n] = size;
            codes[n] = TAPE_END;
        }

        private int endOfToken(int start) {
            int i = start + 1;
            while (i < size && goesOn(i)) {
                i++;
            }
            return i;
        }

        /** Whether a byte is of the same name, or number, as the one ahead of it. */
        private boolean goesOn(int i) {
            if (i == 0) {
                return false;
            }
            boolean letters = isLetter(bytes[i - 1]) && isLetter(bytes[i]);
            return letters || isFigure(bytes[i - 1]) && isFigure(bytes[i]);
        }

        private int codeOf(int start, int end) {
            if (isLetter(bytes[start])) {
                return wordOf(start, end);
            }
            if (!isFigure(bytes[start])) {
                return bytes[start] == ';' ? SIGN : NO_TOKEN;
            }
            if (end - start > FIGURES) {
                return NO_TOKEN;
            }
            int value = 0;
            for (int i = start; i < end; i++) {
                value = 10 * value + bytes[i] - '0';
            }
            return NUMBER + value;
        }

        private int wordOf(int start, int end) {
            int word = 0;
            int i = start;
            boolean same = true;
            for (int k = 0; k < WORDS.length(); k++) {
                if (WORDS.charAt(k) != ' ') {
                    same = same && i < end && bytes[i] == WORDS.charAt(k);
                    i++;
                } else if (same && i == end) {
                    return word;
                } else {
                    word++;
                    i = start;
                    same = true;
                }
            }
            return NO_TOKEN;
        }

        private static boolean isLetter(int b) {
            return b >= 'a' && b <= 'z';
        }

        private static boolean isFigure(int b) {
            return b >= '0' && b <= '9';
        }
    }

    /** Reads the tape into drafts, which are kept only when the whole text is without fault. */
    private static final class Reader {
        static final int MISPLACED = 1, NOT_AS_TOLD = 2, NO_ROOM = 3;

        final Tape tape;
        final Works works;
        final Steps steps;
        int faultNumber;
        int faultPlace;
        private int at;
        private int code;

        Reader(Tape tape, Works works, Steps steps) {
            this.tape = tape;
            this.works = works;
            this.steps = steps;
        }

        boolean readAll() {
            tape.split();
            works.beginDraft();
            steps.drafted = steps.n;
            at = 0;
            code = tape.codes[0];
            boolean whole = true;
            // A line has a byte at least, so there are no more lines than bytes.
            for (int i = 0; i < TAPE && whole && code != Tape.TAPE_END; i++) {
                whole = readLine();
            }
            if (whole) {
                works.keepDraft();
                steps.n = steps.drafted;
            }
            tape.size = 0;
            return whole;
        }

        private boolean readLine() {
            switch (code) {
                case Tape.FLOW: return readFlow();
                case Tape.BAD_LINE: return readConds(works.badLines);
                case Tape.GOOD_LINE: return readConds(works.goodLines);
                case Tape.STEP: return readStep();
                default: return refuse(MISPLACED);
            }
        }

        private boolean readFlow() {
            if (works.flowsDrafted >= FLOWS) {
                return refuse(NO_ROOM);
            }
            nextToken();
            int valve = readNumber(VALVES);
            int height = valve == NONE ? NONE : readNumber(HEIGHTS);
            if (height == NONE) {
                return false;
            }
            if (code != Tape.UP && code != Tape.DOWN) {
                return refuse(MISPLACED);
            }
            works.draftFlow(valve, height, code == Tape.UP ? 1 : -1);
            nextToken();
            return readLineEnd();
        }

        private boolean readConds(Lines lines) {
            if (lines.drafted >= LINES) {
                return refuse(NO_ROOM);
            }
            nextToken();
            for (int i = 0; i < LINE_CONDS; i++) {
                int cond = readCond();
                if (cond == NONE) {
                    return false;
                }
                lines.draftCond(i, cond);
                if (code != Tape.AND) {
                    lines.drafted++;
                    return readLineEnd();
                }
                nextToken();
            }
            return refuse(condSaid() == NONE ? MISPLACED : NO_ROOM);
        }

        private boolean readStep() {
            if (steps.drafted >= STEPS) {
                return refuse(NO_ROOM);
            }
            nextToken();
            int act = actSaid();
            if (act == NONE) {
                return refuse(MISPLACED);
            }
            nextToken();
            int cond = act == Steps.WAIT || act == Steps.IF ? readCond() : 0;
            int target = cond == NONE ? NONE : readTarget(act);
            if (target == NONE) {
                return false;
            }
            steps.draftStep(act, target, cond);
            return readLineEnd();
        }

        private int readTarget(int act) {
            switch (act) {
                case Steps.OPEN:
                case Steps.SHUT: return readNumber(VALVES);
                case Steps.IF:
                case Steps.GO: return readNumber(STEPS);
                default: return 0;
            }
        }

        private int readCond() {
            int sort = condSaid();
            if (sort == NONE) {
                refuse(MISPLACED);
                return NONE;
            }
            nextToken();
            boolean ofValve = sort == Works.OPEN || sort == Works.SHUT;
            int of = readNumber(ofValve ? VALVES : HEIGHTS);
            if (of == NONE) {
                return NONE;
            }
            int level = ofValve ? 0 : readNumber(TOP + 1);
            return level == NONE ? NONE : Works.condOf(sort, of, level);
        }

        private int condSaid() {
            switch (code) {
                case Tape.OPEN: return Works.OPEN;
                case Tape.SHUT: return Works.SHUT;
                case Tape.ABOVE: return Works.ABOVE;
                case Tape.BELOW: return Works.BELOW;
                default: return NONE;
            }
        }

        private int actSaid() {
            switch (code) {
                case Tape.OPEN: return Steps.OPEN;
                case Tape.SHUT: return Steps.SHUT;
                case Tape.WAIT: return Steps.WAIT;
                case Tape.IF: return Steps.IF;
                case Tape.GO: return Steps.GO;
                case Tape.END: return Steps.END;
                default: return NONE;
            }
        }

        private int readNumber(int bound) {
            int value = code - Tape.NUMBER;
            if (value < 0 || value >= bound) {
                refuse(value < 0 ? MISPLACED : NOT_AS_TOLD);
                return NONE;
            }
            nextToken();
            return value;
        }

        private boolean readLineEnd() {
            if (code != Tape.SIGN) {
                return refuse(MISPLACED);
            }
            nextToken();
            return true;
        }

        private boolean refuse(int fault) {
            faultNumber = fault;
            faultPlace = tape.starts[at];
            return false;
        }

        // The tape's end is the last token, and nothing reads on behind it.
        private void nextToken() {
            if (code != Tape.TAPE_END && at < TAPE) {
                at++;
                code = tape.codes[at];
            }
        }
    }

    /** What the hands do at a place (1024 times the step and the state), and how they slip. */
    private static final class Hands {
        static final int SKIPPED = 0, ALIKE = 1, SHORT = 2;

        final Works works;
        final Steps steps;
        final int[] likes = {NONE, NONE, NONE, NONE};
        final int[] prices = {1, 2, 3, 4};

        Hands(Works works, Steps steps) {
            this.works = works;
            this.steps = steps;
        }

        int goingOn(int place) {
            int step = place / STATES;
            int state = place % STATES;
            if (!steps.has(step)) {
                return NONE;
            }
            int next = place + STATES;
            int target = steps.targets[step];
            boolean holds = Works.holds(steps.conds[step], state);
            switch (steps.acts[step]) {
                case Steps.OPEN: return next - state + works.behindDeed(state, target, true);
                case Steps.SHUT: return next - state + works.behindDeed(state, target, false);
                case Steps.WAIT: return holds ? next : place - state + works.behind[state];
                case Steps.IF: return holds ? target * STATES + state : next;
                case Steps.GO: return target * STATES + state;
                default: return NONE;
            }
        }

        boolean ticksGoingOn(int place) {
            int step = place / STATES;
            if (!steps.has(step)) {
                return false;
            }
            boolean waits = steps.acts[step] == Steps.WAIT;
            return steps.isDeed(step) || waits && !Works.holds(steps.conds[step], place % STATES);
        }

        int slipping(int place, int slip) {
            int step = place / STATES;
            int state = place % STATES;
            if (!steps.has(step)) {
                return NONE;
            }
            boolean deed = steps.isDeed(step);
            boolean waits = steps.acts[step] == Steps.WAIT;
            if (!deed && !waits) {
                return NONE;
            }
            int next = place + STATES;
            int like = deed ? likes[steps.targets[step]] : NONE;
            boolean opens = steps.acts[step] == Steps.OPEN;
            boolean early = waits && !Works.holds(steps.conds[step], state);
            switch (slip) {
                case SKIPPED: return next;
                case ALIKE: return like == NONE ? NONE : next - state + works.behindDeed(state, like, opens);
                case SHORT: return early ? next - state + works.behind[state] : NONE;
                default: return step == 0 ? NONE : place - STATES;
            }
        }

        static boolean ticksSlipping(int slip) {
            return slip == ALIKE || slip == SHORT;
        }
    }

    /** Rows over all places, made once and shared by all searches, of which one goes at a time. */
    private static final class Rows {
        static final int LEVELS = MOST_SLIPS + 1;

        final int[] first = new int[PLACES];
        final int[] second = new int[PLACES];
        final int[] third = new int[PLACES];
        // Each mark bears the round that it was made in, so that no search has to clear the row.
        private final int[] marks = new int[PLACES];
        int round;

        void begin() {
            round++;
        }

        /** Enters a place on a level; false: it had been there in this round. */
        boolean enter(int place, int level) {
            int mark = marks[place];
            int levels = mark >> LEVELS == round ? mark & (1 << LEVELS) - 1 : 0;
            int bit = 1 << level;
            marks[place] = round << LEVELS | levels | bit;
            return (levels & bit) == 0;
        }
    }

    /** Single runs, and the way back to a good state. */
    private static final class Walks {
        static final int TICKS_SHOWN = 50;
        // Without a tick the state stays, so this is each step once ahead of the slip and once behind.
        static final int STILL = 2 * (STEPS + 1) + 1;
        static final int ALL_HEIGHTS = STATES - (1 << VALVES);

        final Hands hands;
        final Works works;
        final Rows rows;
        int endState;
        int ticks;
        boolean harmed;
        int deeds;
        int firstDeed;
        private boolean slipAhead;

        Walks(Hands hands, Rows rows) {
            this.hands = hands;
            this.works = hands.works;
            this.rows = rows;
        }

        void walk(int state) {
            rows.begin();
            harmed = false;
            endState = NONE;
            int ticked = 0;
            int place = state;
            for (int i = 0; i < PLACES && place != NONE && rows.enter(place, 0); i++) {
                int now = place % STATES;
                harmed = harmed || works.bad[now];
                ticked += asNumber(hands.ticksGoingOn(place));
                place = hands.goingOn(place);
                endState = place == NONE ? now : NONE;
            }
            ticks = endState == NONE ? NONE : ticked;
        }

        int firstUnlike(int state, int step, int slip) {
            slipAhead = true;
            int plain = state;
            int other = state;
            for (int t = 1; t <= TICKS_SHOWN; t++) {
                plain = toNextTick(plain, NONE, slip);
                other = toNextTick(other, step, slip);
                if (((plain ^ other) & ALL_HEIGHTS) != 0) {
                    return t;
                }
            }
            return NONE;
        }

        /** The place behind the next tick, or, if none comes, one with the state that stays. */
        private int toNextTick(int from, int slipStep, int slip) {
            int place = from;
            for (int i = 0; i < STILL; i++) {
                boolean here = slipAhead && place / STATES == slipStep;
                int next = here ? hands.slipping(place, slip) : NONE;
                boolean ticked = Hands.ticksSlipping(slip);
                if (next == NONE) {
                    ticked = hands.ticksGoingOn(place);
                    next = hands.goingOn(place);
                } else {
                    slipAhead = false;
                }
                if (next == NONE || ticked) {
                    return next == NONE ? place : next;
                }
                place = next;
            }
            return place;
        }

        void seekGood(int state) {
            deeds = NONE;
            firstDeed = NONE;
            if (works.bad[state]) {
                return;
            }
            if (works.good[state]) {
                deeds = 0;
                return;
            }
            rows.begin();
            rows.enter(state, 0);
            rows.first[0] = state;
            rows.second[state] = 0;
            int n = 1;
            for (int i = 0; i < n && i < STATES && deeds == NONE; i++) {
                n = doDeeds(rows.first[i], n);
            }
        }

        // States wait in the order of their first deeds, so the first good one has the least.
        private int doDeeds(int state, int waiting) {
            int n = waiting;
            int done = rows.second[state] + 1;
            for (int deed = 0; deed <= VALVES && deeds == NONE; deed++) {
                int next = behindDeed(state, deed);
                if (!works.bad[next] && rows.enter(next, 0) && n < STATES) {
                    rows.first[n] = next;
                    n++;
                    rows.second[next] = done;
                    rows.third[next] = done == 1 ? deed : rows.third[state];
                    deeds = works.good[next] ? done : NONE;
                    firstDeed = works.good[next] ? rows.third[next] : NONE;
                }
            }
            return n;
        }

        private int behindDeed(int state, int deed) {
            if (deed == 0) {
                return works.behind[state];
            }
            int valve = deed - 1;
            return works.behindDeed(state, valve, (state >> valve & 1) == 0);
        }
    }

    /** All plays with so many slips at most, one level of places for each number of slips. */
    private static final class Through {
        static final int COUNT = 0, HARM = 1, ENDINGS = 2, GOOD_ENDINGS = 3, HANGING = 4, WHATS = 5;
        static final int UNKNOWN = 0, ON_WAY = 1, ENDS = 2, HANGS = 3;

        final Hands hands;
        final Works works;
        final Rows rows;
        // These two bear rounds as marks do. No other search writes them: what it left could pass for a round.
        private final int[] endRounds = new int[STATES];
        private final int[] fates = new int[PLACES];
        private boolean tillHarm;
        private boolean harmed;
        private int endings;
        private int goodEndings;

        Through(Hands hands, Rows rows) {
            this.hands = hands;
            this.works = hands.works;
            this.rows = rows;
        }

        int explore(int state, int slips, int what) {
            begin(what);
            int places = 0;
            int hanging = 0;
            int[] now = rows.first;
            int[] then = rows.second;
            int n = put(now, 0, state, 0);
            for (int level = 0; level <= slips; level++) {
                n = goOnFromAll(now, n, level);
                places += n;
                for (int i = 0; i < n && what == HANGING; i++) {
                    hanging += asNumber(fateFrom(now[i]) == HANGS);
                }
                n = level < slips ? slipFromAll(now, n, then, level + 1) : 0;
                int[] left = now;
                now = then;
                then = left;
            }
            switch (what) {
                case COUNT: return places;
                case HARM: return asNumber(harmed);
                case ENDINGS: return endings;
                case GOOD_ENDINGS: return goodEndings;
                default: return hanging;
            }
        }

        private void begin(int what) {
            rows.begin();
            tillHarm = what == HARM;
            harmed = false;
            endings = 0;
            goodEndings = 0;
        }

        private int put(int[] row, int n, int place, int level) {
            if (place == NONE || n >= PLACES || !rows.enter(place, level)) {
                return n;
            }
            harmed = harmed || works.bad[place % STATES];
            row[n] = place;
            return n + 1;
        }

        private int goOnFromAll(int[] row, int from, int level) {
            int n = from;
            for (int i = 0; i < n && i < PLACES && !isOver(); i++) {
                int next = hands.goingOn(row[i]);
                if (next == NONE) {
                    endIn(row[i] % STATES);
                }
                n = put(row, n, next, level);
            }
            return n;
        }

        private int slipFromAll(int[] row, int from, int[] to, int level) {
            int n = 0;
            for (int i = 0; i < from && !isOver(); i++) {
                for (int slip = 0; slip < SLIPS; slip++) {
                    n = put(to, n, hands.slipping(row[i], slip), level);
                }
            }
            return n;
        }

        private boolean isOver() {
            return harmed && tillHarm;
        }

        private void endIn(int state) {
            if (endRounds[state] != rows.round) {
                endRounds[state] = rows.round;
                endings++;
                goodEndings += asNumber(works.good[state]);
            }
        }

        private int fateFrom(int place) {
            int fate = UNKNOWN;
            int at = place;
            for (int i = 0; i <= PLACES && fate == UNKNOWN; i++) {
                fate = fateAt(at);
                if (fate == ON_WAY) {
                    fate = HANGS;
                } else if (fate == UNKNOWN) {
                    setFate(at, ON_WAY);
                    at = hands.goingOn(at);
                    fate = at == NONE ? ENDS : UNKNOWN;
                }
            }
            // All that was come to on the way shares what it led to.
            at = place;
            for (int i = 0; i <= PLACES && at != NONE && fateAt(at) == ON_WAY; i++) {
                setFate(at, fate);
                at = hands.goingOn(at);
            }
            return fate;
        }

        private int fateAt(int place) {
            int fate = fates[place];
            return fate >> 2 == rows.round ? fate & 3 : UNKNOWN;
        }

        private void setFate(int place, int fate) {
            fates[place] = rows.round << 2 | fate;
        }

        /** The least set of the fewest bars more after which no one slip harms; NONE. */
        int leastBars(int state) {
            int bits = VALVES * VALVES;
            int least = isSafe(state, 0) ? 0 : NONE;
            for (int bit = 0; bit < bits && least == NONE; bit++) {
                least = canCome(bit) && isSafe(state, 1 << bit) ? 1 << bit : NONE;
            }
            for (int high = 0; high < bits && least == NONE; high++) {
                for (int low = 0; low < high && least == NONE; low++) {
                    int pair = 1 << high | 1 << low;
                    least = canCome(high) && canCome(low) && isSafe(state, pair) ? pair : NONE;
                }
            }
            return least;
        }

        private boolean canCome(int bit) {
            return bit / VALVES != bit % VALVES && (works.bars >> bit & 1) == 0;
        }

        private boolean isSafe(int state, int more) {
            int there = works.bars;
            works.bars = there | more;
            boolean safe = explore(state, 1, HARM) == 0;
            works.bars = there;
            return safe;
        }
    }

    /** The cheapest play that harms: a search by least keys, which tell the cost and then the first slip. */
    private static final class Cheapest {
        static final int COST = 128, TAKEN = -1;

        final Hands hands;
        final Rows rows;
        int cost;
        int firstSlip;
        private final int[] heap;
        private final int[] spots;
        private final int[] keys;
        private int size;

        Cheapest(Hands hands, Rows rows) {
            this.hands = hands;
            this.rows = rows;
            this.heap = rows.first;
            this.spots = rows.second;
            this.keys = rows.third;
        }

        void seek(int state) {
            cost = NONE;
            firstSlip = NONE;
            rows.begin();
            size = 0;
            offer(state, 0);
            for (int i = 0; i < PLACES && size > 0 && cost == NONE; i++) {
                int place = takeLeast();
                int key = keys[place];
                if (hands.works.bad[place % STATES]) {
                    cost = key / COST;
                    firstSlip = key == 0 ? NONE : key % COST - 1;
                } else {
                    offerAll(place, key);
                }
            }
        }

        private void offerAll(int place, int key) {
            offer(hands.goingOn(place), key);
            for (int slip = 0; slip < SLIPS; slip++) {
                int paid = key + hands.prices[slip] * COST;
                // As every slip costs something, key 0 alone is without one.
                int told = key == 0 ? SLIPS * (place / STATES) + slip + 1 : 0;
                offer(hands.slipping(place, slip), paid + told);
            }
        }

        private void offer(int place, int key) {
            if (place == NONE) {
                return;
            }
            if (rows.enter(place, 0)) {
                keys[place] = key;
                size++;
                rise(size - 1, place);
            } else if (spots[place] != TAKEN && key < keys[place]) {
                keys[place] = key;
                rise(spots[place], place);
            }
        }

        private int takeLeast() {
            int least = heap[0];
            spots[least] = TAKEN;
            size--;
            if (size > 0) {
                sink(heap[size]);
            }
            return least;
        }

        private void rise(int from, int place) {
            int spot = from;
            while (spot > 0 && keys[heap[(spot - 1) / 2]] > keys[place]) {
                seat(heap[(spot - 1) / 2], spot);
                spot = (spot - 1) / 2;
            }
            seat(place, spot);
        }

        private void sink(int place) {
            int spot = 0;
            int child = lesserChild(spot);
            for (int i = 0; i < size && child < size && keys[heap[child]] < keys[place]; i++) {
                seat(heap[child], spot);
                spot = child;
                child = lesserChild(spot);
            }
            seat(place, spot);
        }

        private int lesserChild(int spot) {
            int child = 2 * spot + 1;
            boolean right = child + 1 < size && keys[heap[child + 1]] < keys[heap[child]];
            return right ? child + 1 : child;
        }

        private void seat(int place, int spot) {
            heap[spot] = place;
            spots[place] = spot;
        }
    }
}
