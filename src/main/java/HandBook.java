import java.util.Arrays;

/** A book of steps that people do on a works, read as a program whose machine slips. */
public final class HandBook {
    public static final int NONE = -1000000, BAD = -1000001, STATE = -1000002, FULL = -1000003;

    private static final int FINDINGS = -1000010;
    private static final int NULL = 1, PLACE = 2, KIND = 3, SIZE = 4, STORE = 5;
    private static final int FAULTS = -1000100;

    private static final int SHEETS = 8, ITEMS = 40, DAYS = 20;
    private static final int TAPE = 400, FEED = 8;
    private static final int VALVES = 4, HEIGHTS = 2, TOP = 7, STATES = 1024;
    private static final int FLOWS = 8, LINES = 4, LINE_CONDS = 3, STEPS = 16;
    private static final int PLACES = (STEPS + 1) * STATES;
    private static final int SLIPS = 4, MOST_PRICE = 99, MOST_SLIPS = 2;

    private final Sheet[] sheets = new Sheet[SHEETS];
    private final Works works = new Works();
    private final Steps steps = new Steps();
    private final Hands hands = new Hands(works, steps);
    private final Reader reader = new Reader(works, steps);
    private final Walks walks;
    private final Through plays;
    private final Cheapest harm;
    private final Asks asks = new Asks(steps);
    private int finding;
    private int latestFault;

    public HandBook() {
        for (int i = 0; i < SHEETS; i++) {
            sheets[i] = new Sheet();
        }
        Rows rows = new Rows();
        walks = new Walks(hands, rows);
        plays = new Through(hands, rows);
        harm = new Cheapest(hands, rows);
    }

    // ---- sheets

    public int sheet(int sheet, int lane, int n) {
        if (!isSheet(sheet) || !isBelow(lane, Sheet.LANES) || n > ITEMS) {
            return BAD;
        }
        if (n < 0) {
            return found(SIZE);
        }
        sheets[sheet].lay(lane, n);
        return fine(n);
    }

    public int set(int sheet, int i, int v) {
        if (!isSheet(sheet)) {
            return BAD;
        }
        Sheet s = sheets[sheet];
        if (!s.there) {
            return found(NULL);
        }
        if (!s.has(i, 1)) {
            return found(PLACE);
        }
        s.items[i] = s.cut(v);
        return fine(s.items[i]);
    }

    public int copy(int a, int i, int b, int j, int n) {
        if (!isSheet(a) || !isSheet(b)) {
            return BAD;
        }
        Sheet from = sheets[a];
        Sheet to = sheets[b];
        if (!from.there || !to.there) {
            return found(NULL);
        }
        if (from.lane != to.lane) {
            return found(STORE);
        }
        if (!from.has(i, n) || !to.has(j, n)) {
            return found(PLACE);
        }
        System.arraycopy(from.items, i, to.items, j, n);
        return fine(n);
    }

    public int drop(int sheet) {
        if (!isSheet(sheet)) {
            return BAD;
        }
        Sheet s = sheets[sheet];
        if (!s.there) {
            return found(NULL);
        }
        s.there = false;
        return fine(s.n);
    }

    // ---- books, works

    public int feed(long w, int n) {
        if (n < 1 || n > FEED) {
            return BAD;
        }
        return reader.take(w, n) ? reader.size : FULL;
    }

    public int book() {
        if (reader.readTape()) {
            return steps.n;
        }
        latestFault = reader.faultNumber;
        return FAULTS - reader.faultPlace;
    }

    public int fault() {
        return latestFault;
    }

    public int like(int valve, int other) {
        if (!isBelow(valve, VALVES) || valve == other) {
            return BAD;
        }
        if (other != NONE && !isBelow(other, VALVES)) {
            return BAD;
        }
        hands.likes[valve] = other;
        return 1;
    }

    public int price(int slip, int v) {
        if (!isBelow(slip, SLIPS) || v < 1 || v > MOST_PRICE) {
            return BAD;
        }
        int was = hands.prices[slip];
        hands.prices[slip] = v;
        return was;
    }

    public int bar(int a, int b, int is) {
        if (!isBelow(a, VALVES) || !isBelow(b, VALVES) || a == b || !isBelow(is, 2)) {
            return BAD;
        }
        int bit = 4 * a + b;
        int was = works.bars >> bit & 1;
        works.bars = works.bars & ~(1 << bit) | is << bit;
        return was;
    }

    public int tick(int state) {
        return isState(state) ? works.behindTick(state) : BAD;
    }

    public int judge(int state, int what) {
        if (!isState(state) || !isBelow(what, 2)) {
            return BAD;
        }
        return asNumber(what == 0 ? works.isBad(state) : works.isGood(state));
    }

    public int days(int sheet, int i, int n) {
        if (!isSheet(sheet) || n < 1 || n > DAYS) {
            return BAD;
        }
        Sheet s = sheets[sheet];
        if (!s.there) {
            return found(NULL);
        }
        if (!s.has(i, n)) {
            return found(PLACE);
        }
        int bad = 0;
        for (int k = i; k < i + n; k++) {
            if (!isState(s.items[k])) {
                return BAD;
            }
            bad += asNumber(works.isBad(s.items[k]));
        }
        return fine(bad);
    }

    // ---- runs

    public int on(int step, int state) {
        if (!isBelow(step, STEPS + 1) || !isState(state)) {
            return BAD;
        }
        return hands.goingOn(step * STATES + state);
    }

    public int slip(int step, int state, int slip) {
        if (!isBelow(step, STEPS + 1) || !isState(state) || !isBelow(slip, SLIPS)) {
            return BAD;
        }
        return hands.slipping(step * STATES + state, slip);
    }

    public int run(int state, int what) {
        if (!isState(state) || !isBelow(what, 3)) {
            return BAD;
        }
        walks.walk(state);
        if (what == 2) {
            return asNumber(walks.harmed);
        }
        return what == 0 ? walks.endState : walks.ticks;
    }

    public int through(int state, int n, int what) {
        if (!isState(state) || !isBelow(n, MOST_SLIPS + 1) || !isBelow(what, 5)) {
            return BAD;
        }
        plays.explore(state, n, false);
        switch (what) {
            case 0: return plays.places;
            case 1: return asNumber(plays.harmed);
            case 2: return plays.ends;
            case 3: return plays.goodEnds;
            default: return plays.hanging;
        }
    }

    public int cheapest(int state, int what) {
        if (!isState(state) || !isBelow(what, 2)) {
            return BAD;
        }
        harm.seek(state);
        return what == 0 ? harm.cost : harm.firstSlip;
    }

    public int back(int state, int what) {
        if (!isState(state) || !isBelow(what, 2)) {
            return BAD;
        }
        walks.seekGood(state);
        return what == 0 ? walks.deeds : walks.firstDeed;
    }

    public int shows(int state, int step, int slip) {
        if (!isState(state) || !steps.has(step) || !isBelow(slip, SLIPS)) {
            return BAD;
        }
        return walks.firstUnlike(state, step, slip);
    }

    public int fewest(int state, int what) {
        if (!isState(state) || !isBelow(what, 2)) {
            return BAD;
        }
        int bars = plays.leastBars(state);
        return bars == NONE || what == 1 ? bars : Integer.bitCount(bars);
    }

    // ---- asked

    public int kind(int step) {
        return steps.has(step) ? steps.kindOf(step) : BAD;
    }

    public int as(int step, int kind) {
        if (!steps.has(step) || !isBelow(kind, Steps.KINDS)) {
            return BAD;
        }
        return steps.isOfKind(step, kind) ? fine(step) : found(KIND);
    }

    public int ask(int step, int what) {
        if (!steps.has(step) || !isBelow(what, 2)) {
            return BAD;
        }
        return asks.answer(step, what);
    }

    public int trace(int i) {
        return isBelow(i, asks.traced) ? asks.trace[i] : NONE;
    }

    public int count(int what) {
        switch (what) {
            case 0: return sheetsThere();
            case 1: return steps.n;
            case 2: return works.flows;
            case 3: return works.badLines.n;
            case 4: return works.goodLines.n;
            case 5: return Integer.bitCount(works.bars);
            case 6: return reader.size;
            default: return BAD;
        }
    }

    public int status() {
        return finding;
    }

    private int found(int number) {
        finding = number;
        return FINDINGS - number;
    }

    private int fine(int answer) {
        finding = 0;
        return answer;
    }

    private int sheetsThere() {
        int there = 0;
        for (int i = 0; i < SHEETS; i++) {
            there += asNumber(sheets[i].there);
        }
        return there;
    }

    private static boolean isSheet(int sheet) {
        return isBelow(sheet, SHEETS);
    }

    private static boolean isState(int state) {
        return isBelow(state, STATES);
    }

    private static boolean isBelow(int v, int bound) {
        return v >= 0 && v < bound;
    }

    private static int asNumber(boolean is) {
        return is ? 1 : 0;
    }

    /** Keeps the row of a sheet that is missing, so that laying one anew makes nothing. */
    private static final class Sheet {
        static final int BYTES = 0, SHORTS = 1, LANES = 3;

        final int[] items = new int[ITEMS];
        boolean there;
        int lane;
        int n;

        void lay(int newLane, int size) {
            there = true;
            lane = newLane;
            n = size;
            Arrays.fill(items, 0);
        }

        // Written without i + size, which could wrap around.
        boolean has(int i, int size) {
            return i >= 0 && size >= 0 && i <= n && size <= n - i;
        }

        int cut(int v) {
            if (lane == BYTES) {
                return (byte) v;
            }
            return lane == SHORTS ? (short) v : v;
        }
    }

    /** Lines of conds. A text that is being read writes behind n; keeping it moves n. */
    private static final class Lines {
        final int[] conds = new int[LINES * LINE_CONDS];
        final int[] sizes = new int[LINES];
        int n;
        int drafted;

        boolean isFull() {
            return drafted >= LINES;
        }

        void draftCond(int i, int cond) {
            if (!isFull() && isBelow(i, LINE_CONDS)) {
                conds[drafted * LINE_CONDS + i] = cond;
                sizes[drafted] = i + 1;
            }
        }

        boolean lineHolds(int line, int state) {
            int first = line * LINE_CONDS;
            for (int i = first; i < first + sizes[line]; i++) {
                if (!Works.holds(conds[i], state)) {
                    return false;
                }
            }
            return true;
        }
    }

    /** Valves, heights and what flows between them; which states are bad or good; bars. */
    private static final class Works {
        static final int OPEN = 0, SHUT = 1, ABOVE = 2, BELOW = 3;

        final Lines badLines = new Lines();
        final Lines goodLines = new Lines();
        final int[] flowValves = new int[FLOWS];
        final int[] flowHeights = new int[FLOWS];
        final int[] flowRises = new int[FLOWS];
        // By the set of open valves, since all plays tick far more often than flows come.
        final int[] rises0 = new int[1 << VALVES];
        final int[] rises1 = new int[1 << VALVES];
        int flows;
        int flowsDrafted;
        int bars;

        static int condOf(int sort, int of, int level) {
            return sort << 6 | of << 3 | level;
        }

        static boolean holds(int cond, int state) {
            int of = cond >> 3 & 7;
            switch (cond >> 6) {
                case OPEN: return isOpen(state, of);
                case SHUT: return !isOpen(state, of);
                case ABOVE: return heightIn(state, of) > (cond & 7);
                default: return heightIn(state, of) < (cond & 7);
            }
        }

        static boolean isOpen(int state, int valve) {
            return (state >> valve & 1) == 1;
        }

        static int heightIn(int state, int height) {
            return state >> 4 + 3 * height & TOP;
        }

        boolean isBad(int state) {
            for (int i = 0; i < badLines.n; i++) {
                if (badLines.lineHolds(i, state)) {
                    return true;
                }
            }
            return false;
        }

        boolean isGood(int state) {
            for (int i = 0; i < goodLines.n; i++) {
                if (!goodLines.lineHolds(i, state)) {
                    return false;
                }
            }
            return !isBad(state);
        }

        int opened(int state, int valve) {
            int barring = bars >> 4 * valve & 15;
            return (barring & state) != 0 ? state : state | 1 << valve;
        }

        int shut(int state, int valve) {
            return state & ~(1 << valve);
        }

        int behindTick(int state) {
            int open = state & 15;
            int first = within(heightIn(state, 0) + rises0[open]);
            int second = within(heightIn(state, 1) + rises1[open]);
            return open | first << 4 | second << 7;
        }

        private static int within(int level) {
            return Math.max(0, Math.min(TOP, level));
        }

        void draftFlow(int valve, int height, int rise) {
            if (flowsDrafted < FLOWS) {
                flowValves[flowsDrafted] = valve;
                flowHeights[flowsDrafted] = height;
                flowRises[flowsDrafted] = rise;
                flowsDrafted++;
            }
        }

        void beginDraft() {
            flowsDrafted = flows;
            badLines.drafted = badLines.n;
            goodLines.drafted = goodLines.n;
        }

        void keepDraft() {
            flows = flowsDrafted;
            badLines.n = badLines.drafted;
            goodLines.n = goodLines.drafted;
            for (int open = 0; open < 1 << VALVES; open++) {
                rises0[open] = riseOf(open, 0);
                rises1[open] = riseOf(open, 1);
            }
        }

        private int riseOf(int open, int height) {
            int rise = 0;
            for (int i = 0; i < flows; i++) {
                if (flowHeights[i] == height && isOpen(open, flowValves[i])) {
                    rise += flowRises[i];
                }
            }
            return rise;
        }
    }

    /** The steps of the book. A text that is being read writes behind n, as with lines. */
    private static final class Steps {
        static final int OPEN = 0, SHUT = 1, WAIT = 2, IF = 3, GO = 4, END = 5;
        static final int STEP = 0, DEED = 1, OPENS = 2, WAITS = 3, TURN = 4, LAST = 5, KINDS = 6;

        final int[] acts = new int[STEPS];
        final int[] targets = new int[STEPS];
        final int[] conds = new int[STEPS];
        int n;
        int drafted;

        boolean has(int step) {
            return isBelow(step, n);
        }

        void draftStep(int act, int target, int cond) {
            if (drafted < STEPS) {
                acts[drafted] = act;
                targets[drafted] = target;
                conds[drafted] = cond;
                drafted++;
            }
        }

        int kindOf(int step) {
            switch (acts[step]) {
                case OPEN: return OPENS;
                case SHUT: return DEED;
                case WAIT: return WAITS;
                case END: return LAST;
                default: return TURN;
            }
        }

        boolean isOfKind(int step, int kind) {
            int told = kindOf(step);
            switch (kind) {
                case STEP: return true;
                case DEED: return told == DEED || told == OPENS;
                case TURN: return told == TURN || told == LAST;
                default: return told == kind;
            }
        }

        int goingTo(int step) {
            int going = 0;
            for (int i = 0; i < n; i++) {
                if ((acts[i] == IF || acts[i] == GO) && targets[i] == step) {
                    going++;
                }
            }
            return going;
        }
    }

    /** Reads the tape into drafts, which are kept only when the whole text is without fault. */
    private static final class Reader {
        static final int MISPLACED = 1, NOT_AS_TOLD = 2, NO_ROOM = 3;
        static final int END = 0, NAME = 1, NUMBER = 2, SIGN = 3, NO_TOKEN = 4;
        static final int FIGURES = 2;

        final Works works;
        final Steps steps;
        final int[] tape = new int[TAPE];
        int size;
        int faultNumber;
        int faultPlace;
        private int at;
        private int from;
        private int sort;
        private int value;

        Reader(Works works, Steps steps) {
            this.works = works;
            this.steps = steps;
        }

        boolean take(long w, int n) {
            if (n > TAPE - size) {
                return false;
            }
            for (int i = n - 1; i >= 0; i--) {
                tape[size] = (int) (w >> 8 * i) & 255;
                size++;
            }
            return true;
        }

        boolean readTape() {
            works.beginDraft();
            steps.drafted = steps.n;
            boolean whole = readText();
            if (whole) {
                works.keepDraft();
                steps.n = steps.drafted;
            }
            size = 0;
            return whole;
        }

        private boolean readText() {
            at = 0;
            nextToken();
            // A line has a byte at least, so there are no more lines than bytes.
            for (int i = 0; i < TAPE && sort != END; i++) {
                if (!readLine()) {
                    return false;
                }
            }
            return true;
        }

        private boolean readLine() {
            if (says("flow")) {
                return readFlow();
            }
            if (says("bad")) {
                return readConds(works.badLines);
            }
            if (says("good")) {
                return readConds(works.goodLines);
            }
            return says("step") ? readStep() : refuse(MISPLACED);
        }

        private boolean readFlow() {
            if (works.flowsDrafted >= FLOWS) {
                return refuse(NO_ROOM);
            }
            nextToken();
            int valve = readNumber(VALVES);
            int height = valve < 0 ? NONE : readNumber(HEIGHTS);
            if (height < 0) {
                return false;
            }
            boolean up = says("up");
            if (!up && !says("down")) {
                return refuse(MISPLACED);
            }
            nextToken();
            works.draftFlow(valve, height, up ? 1 : -1);
            return readLineEnd();
        }

        private boolean readConds(Lines lines) {
            if (lines.isFull()) {
                return refuse(NO_ROOM);
            }
            nextToken();
            for (int i = 0; i < LINE_CONDS; i++) {
                int cond = readCond();
                if (cond < 0) {
                    return false;
                }
                lines.draftCond(i, cond);
                if (!says("and")) {
                    lines.drafted++;
                    return readLineEnd();
                }
                nextToken();
            }
            return refuse(condSort() < 0 ? MISPLACED : NO_ROOM);
        }

        private boolean readStep() {
            if (steps.drafted >= STEPS) {
                return refuse(NO_ROOM);
            }
            nextToken();
            int act = actSaid();
            if (act < 0) {
                return refuse(MISPLACED);
            }
            nextToken();
            int cond = act == Steps.WAIT || act == Steps.IF ? readCond() : 0;
            if (cond < 0) {
                return false;
            }
            int target = readTarget(act);
            if (target < 0) {
                return false;
            }
            steps.draftStep(act, target, cond);
            return readLineEnd();
        }

        private int readTarget(int act) {
            switch (act) {
                case Steps.OPEN:
                case Steps.SHUT: return readNumber(VALVES);
                case Steps.IF:
                case Steps.GO: return readNumber(STEPS);
                default: return 0;
            }
        }

        private int readCond() {
            int of = condSort();
            if (of < 0) {
                refuse(MISPLACED);
                return NONE;
            }
            nextToken();
            boolean ofValve = of == Works.OPEN || of == Works.SHUT;
            int what = readNumber(ofValve ? VALVES : HEIGHTS);
            if (what < 0) {
                return NONE;
            }
            int level = ofValve ? 0 : readNumber(TOP + 1);
            return level < 0 ? NONE : Works.condOf(of, what, level);
        }

        private int condSort() {
            if (says("open")) {
                return Works.OPEN;
            }
            if (says("shut")) {
                return Works.SHUT;
            }
            if (says("above")) {
                return Works.ABOVE;
            }
            return says("below") ? Works.BELOW : NONE;
        }

        private int actSaid() {
            if (says("open")) {
                return Steps.OPEN;
            }
            if (says("shut")) {
                return Steps.SHUT;
            }
            if (says("wait")) {
                return Steps.WAIT;
            }
            if (says("if")) {
                return Steps.IF;
            }
            if (says("go")) {
                return Steps.GO;
            }
            return says("end") ? Steps.END : NONE;
        }

        private int readNumber(int bound) {
            if (sort != NUMBER) {
                refuse(MISPLACED);
                return NONE;
            }
            if (value >= bound) {
                refuse(NOT_AS_TOLD);
                return NONE;
            }
            int read = value;
            nextToken();
            return read;
        }

        private boolean readLineEnd() {
            if (sort != SIGN) {
                return refuse(MISPLACED);
            }
            nextToken();
            return true;
        }

        private boolean refuse(int fault) {
            faultNumber = fault;
            faultPlace = from;
            return false;
        }

        private void nextToken() {
            while (at < size && isBlank(tape[at])) {
                at++;
            }
            from = at;
            if (at >= size) {
                sort = END;
            } else if (isLetter(tape[at])) {
                readName();
            } else if (isFigure(tape[at])) {
                readFigures();
            } else {
                sort = tape[at] == ';' ? SIGN : NO_TOKEN;
                at++;
            }
        }

        private void readName() {
            sort = NAME;
            while (at < size && isLetter(tape[at])) {
                at++;
            }
        }

        private void readFigures() {
            value = 0;
            while (at < size && isFigure(tape[at])) {
                value = 10 * value + tape[at] - '0';
                at++;
            }
            // The value of more figures may have wrapped around, but is never looked at.
            sort = at - from <= FIGURES ? NUMBER : NO_TOKEN;
        }

        private boolean says(String word) {
            if (sort != NAME || at - from != word.length()) {
                return false;
            }
            for (int i = from; i < at; i++) {
                if (tape[i] != word.charAt(i - from)) {
                    return false;
                }
            }
            return true;
        }

        private static boolean isBlank(int b) {
            return b == 32 || b == 10;
        }

        private static boolean isLetter(int b) {
            return b >= 'a' && b <= 'z';
        }

        private static boolean isFigure(int b) {
            return b >= '0' && b <= '9';
        }
    }

    /** What the hands do at a place (1024 times the step and the state), and how they slip. */
    private static final class Hands {
        static final int SKIPPED = 0, ALIKE = 1, SHORT = 2;

        final Works works;
        final Steps steps;
        final int[] likes = {NONE, NONE, NONE, NONE};
        final int[] prices = {1, 2, 3, 4};

        Hands(Works works, Steps steps) {
            this.works = works;
            this.steps = steps;
        }

        static int stepOf(int place) {
            return place / STATES;
        }

        static int stateOf(int place) {
            return place % STATES;
        }

        int goingOn(int place) {
            int step = stepOf(place);
            if (!steps.has(step)) {
                return NONE;
            }
            int state = stateOf(place);
            switch (steps.acts[step]) {
                case Steps.OPEN:
                case Steps.SHUT: return deedDone(step, state, steps.targets[step]);
                case Steps.WAIT: return holdsAt(step, state) ? place + STATES : waited(step, state);
                case Steps.IF: return holdsAt(step, state) ? told(step, state) : place + STATES;
                case Steps.GO: return told(step, state);
                default: return NONE;
            }
        }

        boolean ticksGoingOn(int place) {
            int step = stepOf(place);
            if (!steps.has(step)) {
                return false;
            }
            switch (steps.acts[step]) {
                case Steps.OPEN:
                case Steps.SHUT: return true;
                case Steps.WAIT: return !holdsAt(step, stateOf(place));
                default: return false;
            }
        }

        int slipping(int place, int slip) {
            int step = stepOf(place);
            if (!steps.has(step)) {
                return NONE;
            }
            int act = steps.acts[step];
            if (act != Steps.OPEN && act != Steps.SHUT && act != Steps.WAIT) {
                return NONE;
            }
            switch (slip) {
                case SKIPPED: return place + STATES;
                case ALIKE: return act == Steps.WAIT ? NONE : alike(step, stateOf(place));
                case SHORT: return act == Steps.WAIT ? tooShort(step, stateOf(place)) : NONE;
                default: return step == 0 ? NONE : place - STATES;
            }
        }

        boolean ticksSlipping(int slip) {
            return slip == ALIKE || slip == SHORT;
        }

        private int alike(int step, int state) {
            int valve = steps.targets[step];
            if (!isBelow(valve, VALVES) || likes[valve] == NONE) {
                return NONE;
            }
            return deedDone(step, state, likes[valve]);
        }

        private int tooShort(int step, int state) {
            return holdsAt(step, state) ? NONE : waited(step + 1, state);
        }

        private int deedDone(int step, int state, int valve) {
            boolean opens = steps.acts[step] == Steps.OPEN;
            int done = opens ? works.opened(state, valve) : works.shut(state, valve);
            return waited(step + 1, done);
        }

        private int waited(int step, int state) {
            return step * STATES + works.behindTick(state);
        }

        private int told(int step, int state) {
            return steps.targets[step] * STATES + state;
        }

        private boolean holdsAt(int step, int state) {
            return Works.holds(steps.conds[step], state);
        }
    }

    /** Rows over all places, made once and shared by all searches: of these only one goes at a time. */
    private static final class Rows {
        static final int LEVEL_BITS = 3;

        final int[] first = new int[PLACES];
        final int[] second = new int[PLACES];
        final int[] third = new int[PLACES];
        // Each entry bears the round it was made in, so that no search has to clear the row.
        private final int[] marks = new int[PLACES];
        int round;

        void begin() {
            round++;
        }

        /** Whether the place had not yet been entered on that level in this round. */
        boolean enter(int place, int level) {
            int levels = marks[place] >> LEVEL_BITS == round ? marks[place] & 7 : 0;
            int bit = 1 << level;
            marks[place] = round << LEVEL_BITS | levels | bit;
            return (levels & bit) == 0;
        }
    }

    /** Single runs, and the way back to a good state. */
    private static final class Walks {
        static final int TICKS_SHOWN = 50;
        // Without a tick the state stays: every step once ahead of the slip and once behind it.
        static final int STILL = 2 * STEPS + 8;
        static final int ALL_HEIGHTS = 63 << VALVES;

        final Hands hands;
        final Works works;
        final Rows rows;
        int endState;
        int ticks;
        boolean harmed;
        int deeds;
        int firstDeed;
        private boolean slipAhead;
        private int slipStep;
        private int slipMade;

        Walks(Hands hands, Rows rows) {
            this.hands = hands;
            this.works = hands.works;
            this.rows = rows;
        }

        void walk(int state) {
            rows.begin();
            harmed = false;
            endState = NONE;
            int ticked = 0;
            int place = state;
            for (int i = 0; i < PLACES && place != NONE && rows.enter(place, 0); i++) {
                int now = Hands.stateOf(place);
                harmed = harmed || works.isBad(now);
                ticked += asNumber(hands.ticksGoingOn(place));
                place = hands.goingOn(place);
                if (place == NONE) {
                    endState = now;
                }
            }
            ticks = endState == NONE ? NONE : ticked;
        }

        int firstUnlike(int state, int step, int slip) {
            slipAhead = true;
            slipStep = step;
            slipMade = slip;
            int plain = state;
            int other = state;
            for (int t = 1; t <= TICKS_SHOWN; t++) {
                plain = toNextTick(plain, false);
                other = toNextTick(other, true);
                if (((plain ^ other) & ALL_HEIGHTS) != 0) {
                    return t;
                }
            }
            return NONE;
        }

        private int toNextTick(int from, boolean slips) {
            int place = from;
            for (int i = 0; i < STILL; i++) {
                boolean here = slips && slipAhead && Hands.stepOf(place) == slipStep;
                int next = here ? hands.slipping(place, slipMade) : NONE;
                boolean ticked = hands.ticksSlipping(slipMade);
                if (next != NONE) {
                    slipAhead = false;
                } else {
                    ticked = hands.ticksGoingOn(place);
                    next = hands.goingOn(place);
                }
                if (next == NONE) {
                    return place;
                }
                place = next;
                if (ticked) {
                    return place;
                }
            }
            return place;
        }

        void seekGood(int state) {
            deeds = NONE;
            firstDeed = NONE;
            if (works.isBad(state)) {
                return;
            }
            if (works.isGood(state)) {
                deeds = 0;
                return;
            }
            rows.begin();
            rows.enter(state, 0);
            rows.first[0] = state;
            rows.second[state] = 0;
            int n = 1;
            for (int i = 0; i < n && i < STATES && deeds == NONE; i++) {
                n = doDeeds(rows.first[i], n);
            }
        }

        // States wait in order of their first deed, so the first good one has the least.
        private int doDeeds(int state, int waiting) {
            int n = waiting;
            for (int deed = 0; deed <= VALVES; deed++) {
                int next = deedDone(state, deed);
                if (works.isBad(next) || !rows.enter(next, 0) || n >= STATES) {
                    continue;
                }
                rows.first[n] = next;
                n++;
                rows.second[next] = rows.second[state] + 1;
                rows.third[next] = rows.second[state] == 0 ? deed : rows.third[state];
                if (works.isGood(next)) {
                    deeds = rows.second[next];
                    firstDeed = rows.third[next];
                    return n;
                }
            }
            return n;
        }

        private int deedDone(int state, int deed) {
            if (deed == 0) {
                return works.behindTick(state);
            }
            int valve = deed - 1;
            boolean open = Works.isOpen(state, valve);
            return works.behindTick(open ? works.shut(state, valve) : works.opened(state, valve));
        }
    }

    /** All plays with so many slips at most, one level of places for each number of slips. */
    private static final class Through {
        static final int UNKNOWN = 0, ON_WAY = 1, ENDS = 2, HANGS = 3;

        final Hands hands;
        final Works works;
        final Rows rows;
        int places;
        boolean harmed;
        int ends;
        int goodEnds;
        int hanging;
        private final int[] endRounds = new int[STATES];

        Through(Hands hands, Rows rows) {
            this.hands = hands;
            this.works = hands.works;
            this.rows = rows;
        }

        void explore(int state, int slips, boolean tillHarm) {
            rows.begin();
            places = 0;
            harmed = false;
            ends = 0;
            goodEnds = 0;
            hanging = 0;
            int[] now = rows.first;
            int[] then = rows.second;
            int n = put(now, 0, state, 0);
            for (int level = 0; level <= slips; level++) {
                n = goOnFromAll(now, n, level);
                if (harmed && tillHarm) {
                    return;
                }
                places += n;
                countHanging(now, n);
                n = level < slips ? slipFromAll(now, n, then, level + 1) : 0;
                int[] left = now;
                now = then;
                then = left;
            }
        }

        private int put(int[] row, int n, int place, int level) {
            if (place == NONE || n >= PLACES || !rows.enter(place, level)) {
                return n;
            }
            harmed = harmed || works.isBad(Hands.stateOf(place));
            row[n] = place;
            return n + 1;
        }

        private int goOnFromAll(int[] row, int from, int level) {
            int n = from;
            for (int i = 0; i < n && i < PLACES; i++) {
                int next = hands.goingOn(row[i]);
                if (next == NONE) {
                    endIn(Hands.stateOf(row[i]));
                }
                n = put(row, n, next, level);
            }
            return n;
        }

        private int slipFromAll(int[] row, int from, int[] to, int level) {
            int n = 0;
            for (int i = 0; i < from; i++) {
                for (int slip = 0; slip < SLIPS; slip++) {
                    n = put(to, n, hands.slipping(row[i], slip), level);
                }
            }
            return n;
        }

        private void endIn(int state) {
            if (endRounds[state] == rows.round) {
                return;
            }
            endRounds[state] = rows.round;
            ends++;
            goodEnds += asNumber(works.isGood(state));
        }

        private void countHanging(int[] row, int n) {
            for (int i = 0; i < n; i++) {
                hanging += asNumber(fateFrom(row[i]) == HANGS);
            }
        }

        private int fateFrom(int place) {
            int fate = UNKNOWN;
            int at = place;
            for (int i = 0; i <= PLACES && fate == UNKNOWN; i++) {
                fate = fateAt(at);
                if (fate == ON_WAY) {
                    fate = HANGS;
                } else if (fate == UNKNOWN) {
                    setFate(at, ON_WAY);
                    at = hands.goingOn(at);
                    fate = at == NONE ? ENDS : UNKNOWN;
                }
            }
            at = place;
            for (int i = 0; i <= PLACES && at != NONE && fateAt(at) == ON_WAY; i++) {
                setFate(at, fate);
                at = hands.goingOn(at);
            }
            return fate;
        }

        private int fateAt(int place) {
            int told = rows.third[place];
            return told >> 2 == rows.round ? told & 3 : UNKNOWN;
        }

        private void setFate(int place, int fate) {
            rows.third[place] = rows.round << 2 | fate;
        }

        /** The least set of the fewest bars more after which no one slip harms, or NONE. */
        int leastBars(int state) {
            int there = works.bars;
            int least = isSafe(state, 0) ? 0 : NONE;
            for (int bit = 0; bit < VALVES * VALVES && least == NONE; bit++) {
                least = canCome(bit) && isSafe(state, 1 << bit) ? 1 << bit : NONE;
            }
            for (int high = 1; high < VALVES * VALVES && least == NONE; high++) {
                least = canCome(high) ? leastWith(state, high) : NONE;
            }
            works.bars = there;
            return least;
        }

        private int leastWith(int state, int high) {
            for (int low = 0; low < high; low++) {
                int pair = 1 << high | 1 << low;
                if (canCome(low) && isSafe(state, pair)) {
                    return pair;
                }
            }
            return NONE;
        }

        private boolean canCome(int bit) {
            return bit / VALVES != bit % VALVES && (works.bars >> bit & 1) == 0;
        }

        private boolean isSafe(int state, int more) {
            int there = works.bars;
            works.bars = there | more;
            explore(state, 1, true);
            works.bars = there;
            return !harmed;
        }
    }

    /** The cheapest play that harms: a search by least key, of cost first and first slip then. */
    private static final class Cheapest {
        static final int COST = 128, TAKEN = -1;

        final Hands hands;
        final Rows rows;
        int cost;
        int firstSlip;
        private final int[] heap;
        private final int[] spots;
        private final int[] keys;
        private int size;

        Cheapest(Hands hands, Rows rows) {
            this.hands = hands;
            this.rows = rows;
            this.heap = rows.first;
            this.spots = rows.second;
            this.keys = rows.third;
        }

        void seek(int state) {
            cost = NONE;
            firstSlip = NONE;
            rows.begin();
            size = 0;
            offer(state, 0);
            for (int i = 0; i < PLACES && size > 0; i++) {
                int place = takeLeast();
                int key = keys[place];
                if (hands.works.isBad(Hands.stateOf(place))) {
                    cost = key / COST;
                    firstSlip = key == 0 ? NONE : key % COST - 1;
                    return;
                }
                offer(hands.goingOn(place), key);
                for (int slip = 0; slip < SLIPS; slip++) {
                    offer(hands.slipping(place, slip), keyBehind(key, place, slip));
                }
            }
        }

        private int keyBehind(int key, int place, int slip) {
            int paid = key + hands.prices[slip] * COST;
            // Key 0 alone has no slip yet, as every slip costs something.
            return key == 0 ? paid + SLIPS * Hands.stepOf(place) + slip + 1 : paid;
        }

        private void offer(int place, int key) {
            if (place == NONE) {
                return;
            }
            if (rows.enter(place, 0)) {
                keys[place] = key;
                size++;
                rise(size - 1, place);
            } else if (spots[place] != TAKEN && key < keys[place]) {
                keys[place] = key;
                rise(spots[place], place);
            }
        }

        private int takeLeast() {
            int least = heap[0];
            spots[least] = TAKEN;
            size--;
            if (size > 0) {
                sink(heap[size]);
            }
            return least;
        }

        private void rise(int from, int place) {
            int spot = from;
            while (spot > 0 && keys[heap[(spot - 1) / 2]] > keys[place]) {
                seat(heap[(spot - 1) / 2], spot);
                spot = (spot - 1) / 2;
            }
            seat(place, spot);
        }

        private void sink(int place) {
            int spot = 0;
            int child = lesserChild(0);
            while (child < size && keys[heap[child]] < keys[place]) {
                seat(heap[child], spot);
                spot = child;
                child = lesserChild(spot);
            }
            seat(place, spot);
        }

        private int lesserChild(int spot) {
            int child = 2 * spot + 1;
            boolean right = child + 1 < size && keys[heap[child + 1]] < keys[heap[child]];
            return right ? child + 1 : child;
        }

        private void seat(int place, int spot) {
            heap[spot] = place;
            spots[place] = spot;
        }
    }

    /** Asks of steps by numbered bodies, and the trace that these leave. */
    private static final class Asks {
        static final int TRACE = 16, DEEPEST = 8;

        final Steps steps;
        final int[] trace = new int[TRACE];
        int traced;

        Asks(Steps steps) {
            this.steps = steps;
        }

        int answer(int step, int what) {
            traced = 0;
            return begin(what == 0 ? sizeBody(step) : markBody(step), step, 0);
        }

        private int sizeBody(int step) {
            switch (steps.kindOf(step)) {
                case Steps.DEED: return 11;
                case Steps.OPENS: return 12;
                case Steps.WAITS: return 13;
                case Steps.TURN: return 14;
                case Steps.LAST: return 15;
                default: return 10;
            }
        }

        private int markBody(int step) {
            switch (steps.kindOf(step)) {
                case Steps.DEED:
                case Steps.OPENS: return 21;
                case Steps.WAITS: return 22;
                case Steps.LAST: return 23;
                default: return 20;
            }
        }

        private int begin(int body, int step, int depth) {
            if (depth >= DEEPEST) {
                return 0;
            }
            leave(body);
            int deeper = depth + 1;
            switch (body) {
                case 10: return steps.goingTo(step);
                case 11: return begin(10, step, deeper) + begin(markBody(step), step, deeper);
                case 12: return 2 * begin(11, step, deeper);
                case 13: return begin(10, step, deeper) + 50;
                case 14: return begin(10, step, deeper) - begin(markBody(step), step, deeper);
                case 15: return 2 * begin(14, step, deeper);
                case 21: return begin(20, step, deeper) + 100 * steps.targets[step];
                case 22: return begin(20, step, deeper) + begin(sizeBody(step), step, deeper);
                case 23: return begin(20, step, deeper) + steps.n;
                default: return step;
            }
        }

        private void leave(int body) {
            if (traced < TRACE) {
                trace[traced] = body;
                traced++;
            }
        }
    }
}
