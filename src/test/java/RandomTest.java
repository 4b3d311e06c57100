import java.util.Random;

/**
 * Holds HandBook against the slow model on many random runs of calls, each of at most 512. Every
 * other run is of plays alone, with books in which slips and bars make a difference.
 */
public final class RandomTest {
    private static final int RUNS = 750, CALLS = 390;
    private static final String[] WORDS = {"flow", "bad", "good", "step", "and", "up", "down", "open", "shut",
        "above", "below", "wait", "if", "go", "end", ";", "0", "1", "2", "3", "7", "8", "15", "16", "07", "123",
        "steps", "X", "\t", "\u00e9", "o", "-"};

    private final Random random;
    private final Check check;
    private final int run;
    private final boolean ofPlays;
    private final HandBook book = new HandBook();
    private final Model model = new Model();
    private int calls;

    private RandomTest(int run, Check check) {
        this.run = run;
        this.ofPlays = run % 2 == 1;
        this.check = check;
        this.random = new Random(run);
    }

    public static void main(String[] args) {
        Check check = new Check();
        for (int run = 0; run < RUNS && check.isClean(); run++) {
            new RandomTest(run, check).go();
        }
        check.end("RandomTest");
    }

    private void go() {
        if (ofPlays) {
            goThroughPlays();
            return;
        }
        tell(text());
        while (calls < CALLS && check.isClean()) {
            int sort = upTo(100);
            if (sort < 25) {
                sheetCall();
            } else if (sort < 29) {
                tell(random.nextInt(3) == 0 ? soup() : text());
            } else if (sort < 45) {
                worksCall();
            } else if (sort < 80) {
                runCall();
            } else {
                askCall();
            }
        }
    }

    private void goThroughPlays() {
        tell(text());
        while (calls < CALLS && check.isClean()) {
            if (upTo(3) > 0) {
                runCall();
            } else {
                worksCall();
            }
        }
    }

    private void is(String call, int got, int due) {
        calls++;
        check.is("run " + run + ", call " + calls + ": " + call, got, due);
    }

    private int upTo(int bound) {
        return random.nextInt(bound);
    }

    /** Mostly from 0 to the bound, now and then beyond, or far away. */
    private int about(int bound) {
        int sort = upTo(ofPlays ? 1000 : 60);
        if (sort == 0) {
            return -1;
        }
        if (sort == 1) {
            return bound;
        }
        return sort == 2 ? random.nextInt() : upTo(bound);
    }

    private int state() {
        return upTo(ofPlays ? 2 : 3) == 0 ? upTo(16) : about(1024);
    }

    // ---- texts

    private String text() {
        StringBuilder text = new StringBuilder();
        int flows = ofPlays ? 1 + upTo(5) : upTo(4);
        for (int i = 0; i < flows; i++) {
            text.append("flow " + upTo(4) + " " + upTo(2) + (upTo(3) == 0 ? " down;" : " up;"));
        }
        for (int i = upTo(3); i > 0; i--) {
            text.append("bad " + (ofPlays && upTo(2) == 0 ? openPair() : conds()));
        }
        for (int i = upTo(2); i > 0; i--) {
            text.append("good " + conds());
        }
        int steps = ofPlays ? 4 + upTo(12) : 1 + upTo(9);
        for (int i = 0; i < steps; i++) {
            text.append("step " + act(steps) + (upTo(8) == 0 ? " ;\n" : ";"));
        }
        if (!ofPlays && upTo(6) == 0) {
            int at = upTo(text.length());
            text.replace(at, Math.min(text.length(), at + upTo(4)), WORDS[upTo(WORDS.length)]);
        }
        int end = Math.min(400, text.length());
        return text.substring(0, ofPlays ? text.lastIndexOf(";", end - 1) + 1 : end);
    }

    private String openPair() {
        int a = upTo(4);
        return "open " + a + " and open " + (a + 1 + upTo(3)) % 4 + ";";
    }

    private String act(int steps) {
        switch (upTo(ofPlays ? 8 : 9)) {
            case 0: case 1: case 2: return "open " + upTo(4);
            case 3: case 4: return "shut " + upTo(4);
            case 5: case 6: return "wait " + cond();
            case 7: return "if " + cond() + " " + upTo(steps + 2);
            default: return upTo(2) == 0 ? "end" : "go " + upTo(steps + 1);
        }
    }

    private String conds() {
        StringBuilder text = new StringBuilder(cond());
        for (int i = upTo(20) == 0 ? 3 : upTo(3); i > 0; i--) {
            text.append(" and " + cond());
        }
        return text + ";";
    }

    private String cond() {
        switch (upTo(5)) {
            case 0: return "open " + upTo(4);
            case 1: return "shut " + upTo(4);
            case 2: case 3: return "above " + upTo(2) + " " + upTo(8);
            default: return "below " + upTo(2) + " " + upTo(8);
        }
    }

    private String soup() {
        StringBuilder text = new StringBuilder();
        for (int i = upTo(12); i > 0; i--) {
            text.append(WORDS[upTo(WORDS.length)] + (upTo(5) == 0 ? "" : upTo(6) == 0 ? "\n" : " "));
        }
        return text.toString();
    }

    private void tell(String text) {
        int i = 0;
        while (i < text.length()) {
            int n = Math.min(1 + upTo(8), text.length() - i);
            long w = random.nextLong();
            for (int k = i; k < i + n; k++) {
                w = w << 8 | text.charAt(k);
            }
            is("feed " + n, book.feed(w, n), model.feed(w, n));
            i += n;
        }
        is("count(6)", book.count(6), model.count(6));
        is("book() of " + text, book.book(), model.book());
        is("fault()", book.fault(), model.latestFault);
        for (int what = 0; what < 7; what++) {
            is("count(" + what + ")", book.count(what), model.count(what));
        }
    }

    // ---- calls

    private void sheetCall() {
        int a = about(8) & ~4;
        int b = about(8) & ~4;
        int i = about(12);
        int j = about(12);
        int n = about(12);
        int v = upTo(2) == 0 ? random.nextInt() : state();
        switch (upTo(6)) {
            case 0: is("sheet", book.sheet(a, i % 4, n + 10), model.sheet(a, i % 4, n + 10)); break;
            case 1: is("drop", book.drop(a), model.drop(a)); break;
            case 2: is("copy", book.copy(a, i, b, j, n), model.copy(a, i, b, j, n)); break;
            case 3: is("days", book.days(a, i, n), model.days(a, i, n)); break;
            default: is("set", book.set(a, i, v), model.set(a, i, v));
        }
        is("status", book.status(), model.status);
    }

    private void worksCall() {
        int a = about(4);
        int b = upTo(6) == 0 ? Model.NONE : about(4);
        int s = state();
        switch (upTo(6)) {
            case 0: is("like", book.like(a, b), model.like(a, b)); break;
            case 1:
                int v = upTo(3) == 0 ? about(100) : 1 + upTo(5);
                is("price", book.price(a, v), model.price(a, v));
                break;
            case 2: case 3:
                int there = about(2);
                is("bar", book.bar(a, b, there), model.bar(a, b, there));
                break;
            case 4: is("tick " + s, book.tick(s), model.tick(s)); break;
            default:
                int what = about(2);
                is("judge " + s, book.judge(s, what), model.judge(s, what));
        }
    }

    private void runCall() {
        int s = state();
        int step = about(model.steps.size() + 1);
        int slip = about(4);
        int n = about(3);
        int side = about(2);
        int what = ofPlays ? upTo(5) : about(5);
        switch (upTo(8)) {
            case 0: is("on", book.on(step, s), model.on(step, s)); break;
            case 1: is("slip", book.slip(step, s, slip), model.slip(step, s, slip)); break;
            case 2: is("run " + s, book.run(s, n), model.run(s, n)); break;
            case 3: is("through " + s + " " + n + " " + what, book.through(s, n, what), model.through(s, n, what)); break;
            case 4: is("cheapest " + s, book.cheapest(s, side), model.cheapest(s, side)); break;
            case 5: is("back " + s, book.back(s, side), model.back(s, side)); break;
            case 6: is("shows", book.shows(s, step, slip), model.shows(s, step, slip)); break;
            default:
                is("fewest " + s, book.fewest(s, side), model.fewest(s, side));
        }
    }

    private void askCall() {
        int step = about(model.steps.size() + 1);
        int what = about(2);
        int k = about(6);
        switch (upTo(5)) {
            case 0: is("kind", book.kind(step), model.kind(step)); break;
            case 1: is("as", book.as(step, k), model.as(step, k)); break;
            case 2: is("count", book.count(k), model.count(k)); break;
            default: is("ask", book.ask(step, what), model.ask(step, what));
        }
        is("trace", book.trace(k), model.trace(k));
        is("status", book.status(), model.status);
    }
}
