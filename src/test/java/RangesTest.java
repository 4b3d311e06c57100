/**
 * Promises 2 to 27: each number of each call at its least, at its greatest, and one beyond on both
 * sides, as the headings "Promise 2: sheet" to "Promise 27: count" name them.
 */
public final class RangesTest {
    private static final int NONE = HandBook.NONE, BAD = HandBook.BAD;
    private static final int NULL = -1000011, PLACE = -1000012, SIZE = -1000014;
    private static final Check CHECK = new Check();
    private static final String STEPS = "bad above 0 6;good shut 0;" + "step open 0;".repeat(15) + "step end;";

    private interface Call {
        int of(HandBook x, int v);
    }

    public static void main(String[] args) {
        sheets();
        copies();
        books();
        works();
        days();
        places();
        runs();
        asked();
        CHECK.end("RangesTest");
    }

    /** An object with eight sheets of 40 ints, 16 steps and a trace of two numbers. */
    private static HandBook told() {
        HandBook x = Check.bookOf(STEPS);
        for (int sheet = 0; sheet < 8; sheet++) {
            x.sheet(sheet, 2, 40);
        }
        x.ask(0, 1);
        return x;
    }

    // Each value meets an object of its own, so that none can help or harm another.
    private static void range(String name, int least, int most, int below, int above, Call call) {
        int[] within = {least, (least + most) / 2, most};
        for (int v : within) {
            int answer = call.of(told(), v);
            CHECK.holds(name + " at " + v + " answered " + answer, answer >= NONE);
        }
        CHECK.is(name + " below its least", call.of(told(), least - 1), below);
        CHECK.is(name + " far below", call.of(told(), Integer.MIN_VALUE), below);
        CHECK.is(name + " above its greatest", call.of(told(), most + 1), above);
        CHECK.is(name + " far above", call.of(told(), Integer.MAX_VALUE), above);
    }

    private static void range(String name, int least, int most, Call call) {
        range(name, least, most, BAD, BAD, call);
    }

    private static void sheets() {
        range("sheet: SHEET", 0, 7, (x, v) -> x.sheet(v, 0, 1));
        range("sheet: LANE", 0, 2, (x, v) -> x.sheet(0, v, 1));
        range("sheet: n", 0, 40, SIZE, BAD, (x, v) -> x.sheet(0, 0, v));
        range("set: SHEET", 0, 7, (x, v) -> x.set(v, 0, 1));
        range("set: i", 0, 39, PLACE, PLACE, (x, v) -> x.set(0, v, 1));
        range("drop: SHEET", 0, 7, (x, v) -> x.drop(v));
        for (int sheet = 0; sheet < 8; sheet++) {
            HandBook x = new HandBook();
            CHECK.is("set: NULL of " + sheet, x.set(sheet, 0, 0), NULL);
            CHECK.is("drop: NULL of " + sheet, x.drop(sheet), NULL);
            CHECK.is("days: NULL of " + sheet, x.days(sheet, 0, 1), NULL);
            CHECK.is("copy: NULL of " + sheet, x.copy(sheet, 0, sheet, 0, 0), NULL);
            CHECK.is("sheet " + sheet, x.sheet(sheet, 0, 1), 1);
            CHECK.is("that one alone is there: " + sheet, x.count(0), 1);
            CHECK.is("copy: NULL of the other", x.copy(sheet, 0, 7 - sheet, 0, 0), NULL);
            CHECK.is("drop of it", x.drop(sheet), 1);
        }
        for (int n = 0; n <= 40; n++) {
            HandBook x = new HandBook();
            CHECK.is("sheet of " + n, x.sheet(0, 0, n), n);
            CHECK.is("set behind the last of " + n, x.set(0, n, 1), PLACE);
            CHECK.is("set of the last of " + n, x.set(0, n - 1, 1), n == 0 ? PLACE : 1);
            CHECK.is("drop of " + n, x.drop(0), n);
        }
    }

    private static void copies() {
        range("copy: a", 0, 7, (x, v) -> x.copy(v, 0, 0, 0, 1));
        range("copy: b", 0, 7, (x, v) -> x.copy(0, 0, v, 0, 1));
        range("copy: i of none", 0, 40, PLACE, PLACE, (x, v) -> x.copy(0, v, 1, 0, 0));
        range("copy: j of none", 0, 40, PLACE, PLACE, (x, v) -> x.copy(0, 0, 1, v, 0));
        range("copy: i of one", 0, 39, PLACE, PLACE, (x, v) -> x.copy(0, v, 1, 0, 1));
        range("copy: j of one", 0, 39, PLACE, PLACE, (x, v) -> x.copy(0, 0, 1, v, 1));
        range("copy: n", 0, 40, PLACE, PLACE, (x, v) -> x.copy(0, 0, 1, 0, v));
        range("copy: n from i on", 0, 30, PLACE, PLACE, (x, v) -> x.copy(0, 10, 1, 0, v));
        range("copy: n from j on", 0, 30, PLACE, PLACE, (x, v) -> x.copy(0, 0, 1, 10, v));
        range("copy: n to a smaller sheet", 0, 5, PLACE, PLACE, (x, v) -> {
            x.sheet(1, 2, 5);
            return x.copy(0, 0, 1, 0, v);
        });
        range("copy: n from a smaller sheet", 0, 5, PLACE, PLACE, (x, v) -> {
            x.sheet(0, 2, 5);
            return x.copy(0, 0, 1, 0, v);
        });
    }

    private static void books() {
        range("feed: n", 1, 8, (x, v) -> x.feed(0, v));
        for (int n = 1; n <= 8; n++) {
            HandBook x = new HandBook();
            CHECK.is("feed of " + n, x.feed(-1, n), n);
            CHECK.is("count(6) behind it", x.count(6), n);
        }
    }

    private static void works() {
        range("like: VALVE, with 0", 1, 3, (x, v) -> x.like(v, 0));
        range("like: VALVE, with 3", 0, 2, (x, v) -> x.like(v, 3));
        range("like: VALVE, with none", 0, 3, (x, v) -> x.like(v, NONE));
        range("like: the other of 0", 1, 3, (x, v) -> x.like(0, v));
        range("like: the other of 3", 0, 2, (x, v) -> x.like(3, v));
        range("like: beside NONE", NONE, NONE, (x, v) -> x.like(0, v));
        range("price: SLIP", 0, 3, (x, v) -> x.price(v, 1));
        range("price: v", 1, 99, (x, v) -> x.price(0, v));
        range("bar: a, with 0", 1, 3, (x, v) -> x.bar(v, 0, 1));
        range("bar: a, with 3", 0, 2, (x, v) -> x.bar(v, 3, 1));
        range("bar: b, with 0", 1, 3, (x, v) -> x.bar(0, v, 1));
        range("bar: b, with 3", 0, 2, (x, v) -> x.bar(3, v, 1));
        range("bar: is", 0, 1, (x, v) -> x.bar(0, 1, v));
        range("tick: STATE", 0, 1023, (x, v) -> x.tick(v));
        range("judge: STATE", 0, 1023, (x, v) -> x.judge(v, 0));
        range("judge: STATE, good", 0, 1023, (x, v) -> x.judge(v, 1));
        range("judge: what", 0, 1, (x, v) -> x.judge(0, v));
        for (int valve = 0; valve < 4; valve++) {
            HandBook x = new HandBook();
            CHECK.is("like(" + valve + ", itself)", x.like(valve, valve), BAD);
            CHECK.is("bar(" + valve + ", itself, 0)", x.bar(valve, valve, 0), BAD);
            CHECK.is("bar(" + valve + ", itself, 1)", x.bar(valve, valve, 1), BAD);
            CHECK.is("no bar came", x.count(5), 0);
        }
    }

    private static void days() {
        range("days: SHEET", 0, 7, (x, v) -> x.days(v, 0, 1));
        range("days: n", 1, 20, (x, v) -> x.days(0, 0, v));
        range("days: i of one", 0, 39, PLACE, PLACE, (x, v) -> x.days(0, v, 1));
        range("days: i of 20", 0, 20, PLACE, PLACE, (x, v) -> x.days(0, v, 20));
        range("days: the only ITEM", 0, 1023, (x, v) -> {
            x.set(0, 0, v);
            return x.days(0, 0, 1);
        });
        range("days: the first ITEM", 0, 1023, (x, v) -> {
            x.set(0, 5, v);
            return x.days(0, 5, 20);
        });
        range("days: the last ITEM", 0, 1023, (x, v) -> {
            x.set(0, 24, v);
            return x.days(0, 5, 20);
        });
        // What stands just outside the items that are asked of is not looked at.
        HandBook x = told();
        x.set(0, 4, -1);
        x.set(0, 25, 1024);
        CHECK.is("days between two that are none", x.days(0, 5, 20), 0);
    }

    private static void places() {
        range("on: STEP", 0, 16, (x, v) -> x.on(v, 0));
        range("on: STATE", 0, 1023, (x, v) -> x.on(0, v));
        range("on: STATE at a STEP not there", 0, 1023, (x, v) -> x.on(16, v));
        range("slip: STEP", 0, 16, (x, v) -> x.slip(v, 0, 0));
        range("slip: STATE", 0, 1023, (x, v) -> x.slip(0, v, 0));
        range("slip: SLIP", 0, 3, (x, v) -> x.slip(0, 0, v));
        range("slip: SLIP at a STEP not there", 0, 3, (x, v) -> x.slip(16, 0, v));
        // STEPS 0 to 16 are as told, even if none of them is there.
        HandBook empty = new HandBook();
        for (int step = 0; step <= 16; step++) {
            CHECK.is("on(" + step + ", ..) without steps", empty.on(step, 1023), NONE);
            CHECK.is("slip(" + step + ", ..) without steps", empty.slip(step, 1023, 3), NONE);
        }
        CHECK.is("on(17, ..) without steps", empty.on(17, 1023), BAD);
        CHECK.is("slip(17, ..) without steps", empty.slip(17, 1023, 3), BAD);
    }

    private static void runs() {
        for (int w = 0; w <= 2; w++) {
            int what = w;
            range("run: STATE for " + what, 0, 1023, (x, v) -> x.run(v, what));
            range("through: STATE with " + what, 0, 1023, (x, v) -> x.through(v, what, 0));
        }
        range("run: what", 0, 2, (x, v) -> x.run(0, v));
        range("through: n", 0, 2, (x, v) -> x.through(0, v, 0));
        range("through: what", 0, 4, (x, v) -> x.through(0, 0, v));
        for (int w = 0; w <= 1; w++) {
            int what = w;
            range("cheapest: STATE for " + what, 0, 1023, (x, v) -> x.cheapest(v, what));
            range("back: STATE for " + what, 0, 1023, (x, v) -> x.back(v, what));
            range("fewest: STATE for " + what, 0, 1023, (x, v) -> x.fewest(v, what));
        }
        range("cheapest: what", 0, 1, (x, v) -> x.cheapest(0, v));
        range("back: what", 0, 1, (x, v) -> x.back(0, v));
        range("fewest: what", 0, 1, (x, v) -> x.fewest(0, v));
        range("shows: STATE", 0, 1023, (x, v) -> x.shows(v, 0, 0));
        range("shows: STEP", 0, 15, (x, v) -> x.shows(0, v, 0));
        range("shows: SLIP", 0, 3, (x, v) -> x.shows(0, 0, v));
        CHECK.is("shows: no STEP is there", new HandBook().shows(0, 0, 0), BAD);
        HandBook one = Check.bookOf("step end;");
        CHECK.is("shows: the only STEP", one.shows(0, 0, 0), NONE);
        CHECK.is("shows: behind the only STEP", one.shows(0, 1, 0), BAD);
    }

    private static void asked() {
        range("kind: STEP", 0, 15, (x, v) -> x.kind(v));
        range("as: STEP", 0, 15, (x, v) -> x.as(v, 0));
        range("ask: STEP, SIZE", 0, 15, (x, v) -> x.ask(v, 0));
        range("ask: STEP, MARK", 0, 15, (x, v) -> x.ask(v, 1));
        range("ask: what", 0, 1, (x, v) -> x.ask(0, v));
        range("count: what", 0, 6, (x, v) -> x.count(v));
        HandBook empty = new HandBook();
        CHECK.is("kind without steps", empty.kind(0), BAD);
        CHECK.is("as without steps", empty.as(0, 0), BAD);
        CHECK.is("ask without steps", empty.ask(0, 0), BAD);
        // A kind that is as told, but is not that step's, is found, not BAD.
        int[] due = {0, 0, 0, -1000013, -1000013, -1000013};
        for (int kind = 0; kind < 6; kind++) {
            CHECK.is("as: KIND " + kind, told().as(0, kind), due[kind]);
        }
        CHECK.is("as: KIND -1", told().as(0, -1), BAD);
        CHECK.is("as: KIND 6", told().as(0, 6), BAD);
        CHECK.is("as: KIND far below", told().as(0, Integer.MIN_VALUE), BAD);
        CHECK.is("as: KIND far above", told().as(0, Integer.MAX_VALUE), BAD);
        // The trace of ask(0, 1) has two numbers; what is not there is NONE on both sides.
        int[] trace = {NONE, 21, 20, NONE};
        for (int i = 0; i < trace.length; i++) {
            CHECK.is("trace(" + (i - 1) + ")", told().trace(i - 1), trace[i]);
        }
        CHECK.is("trace far below", told().trace(Integer.MIN_VALUE), NONE);
        CHECK.is("trace far above", told().trace(Integer.MAX_VALUE), NONE);
    }
}
