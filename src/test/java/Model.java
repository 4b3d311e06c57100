import java.lang.reflect.Array;
import java.util.ArrayList;
import java.util.HashMap;
import java.util.HashSet;
import java.util.LinkedHashSet;
import java.util.List;
import java.util.Map;
import java.util.Set;
import java.util.TreeSet;
import java.util.regex.Matcher;
import java.util.regex.Pattern;

/**
 * The document once more, in the slowest and plainest way and with the whole Java library, so that
 * HandBook can be held against it on random calls. It shares no code and no method with HandBook.
 */
final class Model {
    static final int NONE = -1000000, BAD = -1000001, FULL = -1000003;
    static final int MANY = 1 << 28;

    record Cond(String sort, int of, int level) {
        boolean holds(int state) {
            return switch (sort) {
                case "open" -> open(state, of);
                case "shut" -> !open(state, of);
                case "above" -> height(state, of) > level;
                default -> height(state, of) < level;
            };
        }
    }

    record Flow(int valve, int height, String way) { }

    record Step(String act, int number, Cond cond) { }

    private static final class Fault extends Exception {
        private static final long serialVersionUID = 1;
        final int place;
        final int number;

        Fault(int place, int number) {
            this.place = place;
            this.number = number;
        }
    }

    final Object[] sheets = new Object[8];
    final StringBuilder tape = new StringBuilder();
    List<Flow> flows = new ArrayList<>();
    List<List<Cond>> badLines = new ArrayList<>();
    List<List<Cond>> goodLines = new ArrayList<>();
    List<Step> steps = new ArrayList<>();
    final Integer[] likes = new Integer[4];
    final int[] prices = {1, 2, 3, 4};
    Set<Integer> bars = new TreeSet<>();
    final List<Integer> trace = new ArrayList<>();
    int latestFault;
    int status;

    static boolean open(int state, int valve) {
        return state / (1 << valve) % 2 == 1;
    }

    static int height(int state, int height) {
        return (height == 0 ? state / 16 : state / 128) % 8;
    }

    private static boolean in(int v, int least, int most) {
        return least <= v && v <= most;
    }

    private int found(int number) {
        status = number;
        return -1000010 - number;
    }

    private int fine(int answer) {
        status = 0;
        return answer;
    }

    // ---- sheets: held by Java's own arrays, whose own refusals are the findings

    int sheet(int sheet, int lane, int n) {
        if (!in(sheet, 0, 7) || !in(lane, 0, 2) || n > 40) {
            return BAD;
        }
        try {
            sheets[sheet] = lane == 0 ? new byte[n] : lane == 1 ? new short[n] : new int[n];
            return fine(n);
        } catch (NegativeArraySizeException e) {
            return found(4);
        }
    }

    int set(int sheet, int i, int v) {
        if (!in(sheet, 0, 7)) {
            return BAD;
        }
        if (sheets[sheet] == null) {
            return found(1);
        }
        try {
            if (sheets[sheet] instanceof byte[] b) {
                b[i] = (byte) v;
                return fine(b[i]);
            }
            if (sheets[sheet] instanceof short[] s) {
                s[i] = (short) v;
                return fine(s[i]);
            }
            int[] ints = (int[]) sheets[sheet];
            ints[i] = v;
            return fine(ints[i]);
        } catch (ArrayIndexOutOfBoundsException e) {
            return found(2);
        }
    }

    int copy(int a, int i, int b, int j, int n) {
        if (!in(a, 0, 7) || !in(b, 0, 7)) {
            return BAD;
        }
        try {
            System.arraycopy(sheets[a], i, sheets[b], j, n);
            return fine(n);
        } catch (NullPointerException e) {
            return found(1);
        } catch (ArrayStoreException e) {
            return found(5);
        } catch (IndexOutOfBoundsException e) {
            return found(2);
        }
    }

    int drop(int sheet) {
        if (!in(sheet, 0, 7)) {
            return BAD;
        }
        if (sheets[sheet] == null) {
            return found(1);
        }
        int n = Array.getLength(sheets[sheet]);
        sheets[sheet] = null;
        return fine(n);
    }

    int days(int sheet, int i, int n) {
        if (!in(sheet, 0, 7) || !in(n, 1, 20)) {
            return BAD;
        }
        if (sheets[sheet] == null) {
            return found(1);
        }
        if (i < 0 || (long) i + n > Array.getLength(sheets[sheet])) {
            return found(2);
        }
        int bad = 0;
        for (int k = 0; k < n; k++) {
            int state = Array.getInt(sheets[sheet], i + k);
            if (!in(state, 0, 1023)) {
                return BAD;
            }
            bad += bad(state) ? 1 : 0;
        }
        return fine(bad);
    }

    // ---- texts

    int feed(long w, int n) {
        if (!in(n, 1, 8)) {
            return BAD;
        }
        if (tape.length() + n > 400) {
            return FULL;
        }
        for (int i = n; i > 0; i--) {
            tape.append((char) (w >>> 8 * (i - 1) & 255));
        }
        return tape.length();
    }

    private List<String> tokens;
    private List<Integer> places;
    private int at;

    int book() {
        String text = tape.toString();
        tape.setLength(0);
        tokens = new ArrayList<>();
        places = new ArrayList<>();
        Matcher m = Pattern.compile("[a-z]+|[0-9]+|[^ \n]", Pattern.DOTALL).matcher(text);
        while (m.find()) {
            tokens.add(m.group());
            places.add(m.start());
        }
        tokens.add("");
        places.add(text.length());
        at = 0;
        var newFlows = new ArrayList<>(flows);
        var newBad = new ArrayList<>(badLines);
        var newGood = new ArrayList<>(goodLines);
        var newSteps = new ArrayList<>(steps);
        try {
            while (!token().isEmpty()) {
                String word = take("flow", "bad", "good", "step");
                switch (word) {
                    case "flow" -> newFlows.add(flow(newFlows.size()));
                    case "bad" -> newBad.add(line(newBad.size()));
                    case "good" -> newGood.add(line(newGood.size()));
                    default -> newSteps.add(step(newSteps.size()));
                }
                take(";");
            }
        } catch (Fault f) {
            latestFault = f.number;
            return -1000100 - f.place;
        }
        flows = newFlows;
        badLines = newBad;
        goodLines = newGood;
        steps = newSteps;
        return steps.size();
    }

    private String token() {
        return tokens.get(at);
    }

    private Fault faultHere(int number) {
        return new Fault(places.get(at), number);
    }

    private String take(String... words) throws Fault {
        for (String word : words) {
            if (token().equals(word)) {
                at++;
                return word;
            }
        }
        throw faultHere(1);
    }

    private int number(int most) throws Fault {
        if (!token().matches("[0-9]{1,2}")) {
            throw faultHere(1);
        }
        int value = Integer.parseInt(token());
        if (value > most) {
            throw faultHere(2);
        }
        at++;
        return value;
    }

    private void room(int there, int most) throws Fault {
        if (there >= most) {
            at--;
            throw faultHere(3);
        }
    }

    private Flow flow(int there) throws Fault {
        room(there, 8);
        return new Flow(number(3), number(1), take("up", "down"));
    }

    private List<Cond> line(int there) throws Fault {
        room(there, 4);
        List<Cond> conds = new ArrayList<>();
        conds.add(cond());
        while (token().equals("and")) {
            at++;
            if (conds.size() == 3) {
                take("open", "shut", "above", "below");
                room(3, 3);
            }
            conds.add(cond());
        }
        return conds;
    }

    private Cond cond() throws Fault {
        String sort = take("open", "shut", "above", "below");
        if (sort.equals("open") || sort.equals("shut")) {
            return new Cond(sort, number(3), 0);
        }
        return new Cond(sort, number(1), number(7));
    }

    private Step step(int there) throws Fault {
        room(there, 16);
        String act = take("open", "shut", "wait", "if", "go", "end");
        return switch (act) {
            case "open", "shut" -> new Step(act, number(3), null);
            case "wait" -> new Step(act, 0, cond());
            case "if" -> {
                Cond cond = cond();
                yield new Step(act, number(15), cond);
            }
            case "go" -> new Step(act, number(15), null);
            default -> new Step(act, 0, null);
        };
    }

    // ---- works

    int like(int valve, int other) {
        if (!in(valve, 0, 3) || other != NONE && (!in(other, 0, 3) || other == valve)) {
            return BAD;
        }
        likes[valve] = other == NONE ? null : other;
        return 1;
    }

    int price(int slip, int v) {
        if (!in(slip, 0, 3) || !in(v, 1, 99)) {
            return BAD;
        }
        int was = prices[slip];
        prices[slip] = v;
        return was;
    }

    int bar(int a, int b, int is) {
        if (!in(a, 0, 3) || !in(b, 0, 3) || a == b || !in(is, 0, 1)) {
            return BAD;
        }
        int was = bars.contains(4 * a + b) ? 1 : 0;
        if (is == 1) {
            bars.add(4 * a + b);
        } else {
            bars.remove(4 * a + b);
        }
        return was;
    }

    int ticked(int state) {
        int[] heights = {height(state, 0), height(state, 1)};
        for (Flow flow : flows) {
            if (open(state, flow.valve())) {
                heights[flow.height()] += flow.way().equals("up") ? 1 : -1;
            }
        }
        for (int i = 0; i < 2; i++) {
            heights[i] = Math.min(7, Math.max(0, heights[i]));
        }
        return state % 16 + 16 * heights[0] + 128 * heights[1];
    }

    int tick(int state) {
        return in(state, 0, 1023) ? ticked(state) : BAD;
    }

    boolean bad(int state) {
        return badLines.stream().anyMatch(line -> line.stream().allMatch(c -> c.holds(state)));
    }

    boolean good(int state) {
        return !bad(state) && goodLines.stream().allMatch(line -> line.stream().allMatch(c -> c.holds(state)));
    }

    int judge(int state, int what) {
        if (!in(state, 0, 1023) || !in(what, 0, 1)) {
            return BAD;
        }
        return (what == 0 ? bad(state) : good(state)) ? 1 : 0;
    }

    private int moved(int state, int valve, boolean opens) {
        if (!opens) {
            return open(state, valve) ? state - (1 << valve) : state;
        }
        if (open(state, valve)) {
            return state;
        }
        for (int b = 0; b < 4; b++) {
            if (open(state, b) && bars.contains(4 * valve + b)) {
                return state;
            }
        }
        return state + (1 << valve);
    }

    // ---- runs

    private Step at(int step) {
        return step < steps.size() ? steps.get(step) : new Step("end", 0, null);
    }

    int next(int step, int state) {
        Step s = at(step);
        return switch (s.act()) {
            case "open", "shut" -> 1024 * (step + 1) + ticked(moved(state, s.number(), s.act().equals("open")));
            case "wait" -> s.cond().holds(state) ? 1024 * (step + 1) + state : 1024 * step + ticked(state);
            case "if" -> 1024 * (s.cond().holds(state) ? s.number() : step + 1) + state;
            case "go" -> 1024 * s.number() + state;
            default -> NONE;
        };
    }

    private int next(int place) {
        return next(place / 1024, place % 1024);
    }

    private boolean ticks(int place) {
        Step s = at(place / 1024);
        return s.act().equals("open") || s.act().equals("shut")
            || s.act().equals("wait") && !s.cond().holds(place % 1024);
    }

    int on(int step, int state) {
        return in(step, 0, 16) && in(state, 0, 1023) ? next(step, state) : BAD;
    }

    private int slipped(int place, int slip) {
        int step = place / 1024;
        int state = place % 1024;
        Step s = at(step);
        boolean deed = s.act().equals("open") || s.act().equals("shut");
        boolean wait = s.act().equals("wait");
        if (slip == 0 && (deed || wait)) {
            return place + 1024;
        }
        if (slip == 1 && deed && likes[s.number()] != null) {
            return 1024 * (step + 1) + ticked(moved(state, likes[s.number()], s.act().equals("open")));
        }
        if (slip == 2 && wait && !s.cond().holds(state)) {
            return 1024 * (step + 1) + ticked(state);
        }
        if (slip == 3 && (deed || wait) && step > 0) {
            return place - 1024;
        }
        return NONE;
    }

    int slip(int step, int state, int slip) {
        if (!in(step, 0, 16) || !in(state, 0, 1023) || !in(slip, 0, 3)) {
            return BAD;
        }
        return slipped(1024 * step + state, slip);
    }

    int run(int state, int what) {
        if (!in(state, 0, 1023) || !in(what, 0, 2)) {
            return BAD;
        }
        int place = state;
        int ticks = 0;
        boolean harmed = false;
        // There are 17408 places, so a run of more moves comes to one again.
        for (int moves = 0; moves < 17500; moves++) {
            harmed = harmed || bad(place % 1024);
            int next = next(place);
            if (next == NONE) {
                return what == 0 ? place % 1024 : what == 1 ? ticks : harmed ? 1 : 0;
            }
            ticks += ticks(place) ? 1 : 0;
            place = next;
        }
        return what == 2 ? (harmed ? 1 : 0) : NONE;
    }

    private Set<Integer> plays(int state, int n) {
        Set<Integer> all = new LinkedHashSet<>();
        List<Integer> open = new ArrayList<>();
        all.add(state);
        open.add(state);
        while (!open.isEmpty()) {
            int node = open.remove(open.size() - 1);
            int place = node % 32768;
            int made = node / 32768;
            List<Integer> to = new ArrayList<>();
            if (next(place) != NONE) {
                to.add(32768 * made + next(place));
            }
            for (int s = 0; s < 4 && made < n; s++) {
                if (slipped(place, s) != NONE) {
                    to.add(32768 * (made + 1) + slipped(place, s));
                }
            }
            for (int t : to) {
                if (all.add(t)) {
                    open.add(t);
                }
            }
        }
        return all;
    }

    private boolean hangs(int place, Map<Integer, Boolean> known) {
        Set<Integer> way = new HashSet<>();
        int p = place;
        Boolean hangs = null;
        while (hangs == null) {
            if (p == NONE) {
                hangs = false;
            } else if (known.containsKey(p)) {
                hangs = known.get(p);
            } else if (!way.add(p)) {
                hangs = true;
            } else {
                p = next(p);
            }
        }
        for (int w : way) {
            known.put(w, hangs);
        }
        return hangs;
    }

    int through(int state, int n, int what) {
        if (!in(state, 0, 1023) || !in(n, 0, 2) || !in(what, 0, 4)) {
            return BAD;
        }
        Set<Integer> all = plays(state, n);
        Set<Integer> ends = new HashSet<>();
        Map<Integer, Boolean> known = new HashMap<>();
        int hanging = 0;
        boolean harmed = false;
        for (int node : all) {
            int place = node % 32768;
            harmed = harmed || bad(place % 1024);
            if (next(place) == NONE) {
                ends.add(place % 1024);
            }
            hanging += hangs(place, known) ? 1 : 0;
        }
        return switch (what) {
            case 0 -> all.size();
            case 1 -> harmed ? 1 : 0;
            case 2 -> ends.size();
            case 3 -> (int) ends.stream().filter(this::good).count();
            default -> hanging;
        };
    }

    int cheapest(int state, int what) {
        if (!in(state, 0, 1023) || !in(what, 0, 1)) {
            return BAD;
        }
        Map<Integer, Integer> cost = new HashMap<>();
        List<Integer> open = new ArrayList<>(List.of(state));
        cost.put(state, MANY);
        while (!open.isEmpty()) {
            int place = open.remove(open.size() - 1);
            for (int s = -1; s < 4; s++) {
                int t = s < 0 ? next(place) : slipped(place, s);
                if (t != NONE && cost.putIfAbsent(t, MANY) == null) {
                    open.add(t);
                }
            }
        }
        boolean changed = true;
        while (changed) {
            changed = false;
            for (int place : cost.keySet()) {
                int least = bad(place % 1024) ? 0 : cost.get(place);
                for (int s = -1; s < 4; s++) {
                    int t = s < 0 ? next(place) : slipped(place, s);
                    if (t != NONE) {
                        least = Math.min(least, cost.get(t) + (s < 0 ? 0 : prices[s]));
                    }
                }
                if (least < cost.get(place)) {
                    cost.put(place, least);
                    changed = true;
                }
            }
        }
        int all = cost.get(state);
        if (what == 0) {
            return all == MANY ? NONE : all;
        }
        if (all == MANY || all == 0) {
            return NONE;
        }
        int first = MANY;
        Set<Integer> way = new HashSet<>();
        for (int p = state; p != NONE && way.add(p); p = next(p)) {
            for (int s = 0; s < 4; s++) {
                int t = slipped(p, s);
                if (t != NONE && prices[s] + cost.get(t) == all) {
                    first = Math.min(first, 4 * (p / 1024) + s);
                }
            }
        }
        return first;
    }

    private int deed(int state, int deed) {
        return ticked(deed == 0 ? state : moved(state, deed - 1, !open(state, deed - 1)));
    }

    int back(int state, int what) {
        if (!in(state, 0, 1023) || !in(what, 0, 1)) {
            return BAD;
        }
        int[] far = new int[1024];
        for (int s = 0; s < 1024; s++) {
            far[s] = good(s) ? 0 : MANY;
        }
        boolean changed = true;
        while (changed) {
            changed = false;
            for (int s = 0; s < 1024; s++) {
                for (int d = 0; d < 5 && !bad(s); d++) {
                    int t = far[deed(s, d)] + 1;
                    if (t < far[s]) {
                        far[s] = t;
                        changed = true;
                    }
                }
            }
        }
        if (what == 0) {
            return far[state] >= MANY ? NONE : far[state];
        }
        for (int d = 0; d < 5 && far[state] > 0 && far[state] < MANY; d++) {
            if (far[deed(state, d)] == far[state] - 1) {
                return d;
            }
        }
        return NONE;
    }

    /** HEIGHTS behind each of the first 50 TICKS, the last ones kept; ahead of them those at first. */
    private List<Integer> heights(int state, int step, int slip) {
        List<Integer> heights = new ArrayList<>(List.of(state / 16));
        boolean made = slip < 0;
        int place = state;
        int moves = 0;
        while (heights.size() <= 50 && moves < 5000 && place != NONE) {
            moves++;
            int next = NONE;
            boolean ticks = ticks(place);
            if (!made && place / 1024 == step && slipped(place, slip) != NONE) {
                made = true;
                next = slipped(place, slip);
                ticks = slip == 1 || slip == 2;
            } else {
                next = next(place);
            }
            if (next != NONE && ticks) {
                heights.add(next % 1024 / 16);
            }
            place = next;
        }
        while (heights.size() <= 50) {
            heights.add(heights.get(heights.size() - 1));
        }
        return heights;
    }

    int shows(int state, int step, int slip) {
        if (!in(state, 0, 1023) || !in(step, 0, steps.size() - 1) || !in(slip, 0, 3)) {
            return BAD;
        }
        List<Integer> plain = heights(state, step, -1);
        List<Integer> other = heights(state, step, slip);
        for (int t = 1; t <= 50; t++) {
            if (!plain.get(t).equals(other.get(t))) {
                return t;
            }
        }
        return NONE;
    }

    int fewest(int state, int what) {
        if (!in(state, 0, 1023) || !in(what, 0, 1)) {
            return BAD;
        }
        Set<Integer> there = bars;
        int best = NONE;
        for (int set = 0; set < 1 << 16; set++) {
            int size = Integer.bitCount(set);
            if (size > 2 || best != NONE && Integer.bitCount(best) <= size) {
                continue;
            }
            Set<Integer> more = new TreeSet<>(there);
            boolean can = true;
            for (int bit = 0; bit < 16; bit++) {
                if ((set >> bit & 1) == 1) {
                    can = can && bit / 4 != bit % 4 && more.add(bit);
                }
            }
            if (can) {
                bars = more;
                if (plays(state, 1).stream().noneMatch(node -> bad(node % 1024))) {
                    best = set;
                }
                bars = there;
            }
        }
        return best == NONE || what == 1 ? best : Integer.bitCount(best);
    }

    // ---- asked: kinds as classes, so that Java's own rules find the body that begins

    private interface Lent {
        int number();

        Model model();

        default int size() {
            model().trace.add(10);
            int n = 0;
            for (Step s : model().steps) {
                if ((s.act().equals("if") || s.act().equals("go")) && s.number() == number()) {
                    n++;
                }
            }
            return n;
        }

        default int mark() {
            model().trace.add(20);
            return number();
        }
    }

    private static class Plain implements Lent {
        final Model model;
        final int number;
        final Step step;

        Plain(Model model, int number) {
            this.model = model;
            this.number = number;
            this.step = model.steps.get(number);
        }

        @Override public int number() {
            return number;
        }

        @Override public Model model() {
            return model;
        }
    }

    private static class Deed extends Plain {
        Deed(Model model, int number) {
            super(model, number);
        }

        @Override public int size() {
            model.trace.add(11);
            return super.size() + mark();
        }

        @Override public int mark() {
            model.trace.add(21);
            return super.mark() + 100 * step.number();
        }
    }

    private static final class Opens extends Deed {
        Opens(Model model, int number) {
            super(model, number);
        }

        @Override public int size() {
            model.trace.add(12);
            return 2 * super.size();
        }
    }

    private static final class Waits extends Plain {
        Waits(Model model, int number) {
            super(model, number);
        }

        @Override public int size() {
            model.trace.add(13);
            return super.size() + 50;
        }

        @Override public int mark() {
            model.trace.add(22);
            return super.mark() + size();
        }
    }

    private static class Turn extends Plain {
        Turn(Model model, int number) {
            super(model, number);
        }

        @Override public int size() {
            model.trace.add(14);
            return super.size() - mark();
        }
    }

    private static final class Last extends Turn {
        Last(Model model, int number) {
            super(model, number);
        }

        @Override public int size() {
            model.trace.add(15);
            return 2 * super.size();
        }

        @Override public int mark() {
            model.trace.add(23);
            return super.mark() + model.steps.size();
        }
    }

    private static final Class<?>[] KINDS = {Plain.class, Deed.class, Opens.class, Waits.class, Turn.class, Last.class};

    private Plain stepAt(int step) {
        return switch (steps.get(step).act()) {
            case "open" -> new Opens(this, step);
            case "shut" -> new Deed(this, step);
            case "wait" -> new Waits(this, step);
            case "end" -> new Last(this, step);
            default -> new Turn(this, step);
        };
    }

    int kind(int step) {
        if (!in(step, 0, steps.size() - 1)) {
            return BAD;
        }
        return List.of(KINDS).indexOf(stepAt(step).getClass());
    }

    int as(int step, int kind) {
        if (!in(step, 0, steps.size() - 1) || !in(kind, 0, 5)) {
            return BAD;
        }
        try {
            KINDS[kind].cast(stepAt(step));
            return fine(step);
        } catch (ClassCastException e) {
            return found(3);
        }
    }

    int ask(int step, int what) {
        if (!in(step, 0, steps.size() - 1) || !in(what, 0, 1)) {
            return BAD;
        }
        trace.clear();
        return what == 0 ? stepAt(step).size() : stepAt(step).mark();
    }

    int trace(int i) {
        return in(i, 0, Math.min(16, trace.size()) - 1) ? trace.get(i) : NONE;
    }

    int count(int what) {
        return switch (what) {
            case 0 -> {
                int n = 0;
                for (Object sheet : sheets) {
                    n += sheet == null ? 0 : 1;
                }
                yield n;
            }
            case 1 -> steps.size();
            case 2 -> flows.size();
            case 3 -> badLines.size();
            case 4 -> goodLines.size();
            case 5 -> bars.size();
            case 6 -> tape.length();
            default -> BAD;
        };
    }
}
