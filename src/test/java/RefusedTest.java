import java.util.ArrayList;
import java.util.List;

/**
 * Terms: which refusal comes first, and "What is refused, or found, changes nothing but status()";
 * promise 28: status behind each kind of refusal and finding.
 */
public final class RefusedTest {
    private static final int BAD = HandBook.BAD, FULL = HandBook.FULL, NONE = HandBook.NONE;
    private static final int NULL = -1000011, PLACE = -1000012, KIND = -1000013, SIZE = -1000014, STORE = -1000015;
    private static final Check CHECK = new Check();
    private static final int FAR = Integer.MAX_VALUE, LEAST = Integer.MIN_VALUE;
    private static final String BOOK = "flow 0 0 up;flow 1 0 down;flow 2 1 up;bad above 0 4;bad open 3 and above 1 2;"
        + "good below 0 1;step open 0;step wait above 0 1;step shut 0;step open 1;step wait below 0 1;step shut 1;"
        + "step if open 2 0;step end;";

    private interface Call {
        int of(HandBook x);
    }

    private static final class Refused {
        final String name;
        final int due;
        final Call call;

        Refused(String name, int due, Call call) {
            this.name = name;
            this.due = due;
            this.call = call;
        }
    }

    private static final List<Refused> ALL = new ArrayList<>();

    public static void main(String[] args) {
        refusedSheets();
        refusedBooks();
        refusedWorks();
        refusedRuns();
        refusedAsks();
        for (Refused refused : ALL) {
            changesNothing(refused, 0);
            changesNothing(refused, 2);
        }
        fullTape();
        everyStatus();
        otherCallsLeaveStatus();
        CHECK.end("RefusedTest");
    }

    private static void refused(String name, int due, Call call) {
        ALL.add(new Refused(name, due, call));
    }

    // ---- each refusal, with several reasons at once where they can meet

    private static void refusedSheets() {
        refused("sheet: SHEET and SIZE", BAD, x -> x.sheet(8, 0, -1));
        refused("sheet: LANE and SIZE", BAD, x -> x.sheet(0, 3, -1));
        refused("sheet: n above 40", BAD, x -> x.sheet(0, 1, 41));
        refused("sheet: SIZE, one that is there", SIZE, x -> x.sheet(0, 1, -1));
        refused("sheet: SIZE, one that is missing", SIZE, x -> x.sheet(5, 1, LEAST));
        refused("set: SHEET and PLACE", BAD, x -> x.set(-1, -1, 1));
        refused("set: NULL and PLACE", NULL, x -> x.set(5, -1, 1));
        refused("set: NULL and PLACE beyond", NULL, x -> x.set(5, 40, 1));
        refused("set: PLACE below", PLACE, x -> x.set(0, -1, 1));
        refused("set: PLACE beyond", PLACE, x -> x.set(0, 6, 1));
        refused("copy: a, NULL and PLACE", BAD, x -> x.copy(8, -1, 5, -1, -1));
        refused("copy: b, NULL and PLACE", BAD, x -> x.copy(5, -1, -1, -1, -1));
        refused("copy: b and STORE", BAD, x -> x.copy(0, 0, 8, 0, 1));
        refused("copy: NULL of a, PLACE", NULL, x -> x.copy(5, -1, 0, 0, 1));
        refused("copy: NULL of b, PLACE", NULL, x -> x.copy(0, 0, 5, 0, -1));
        refused("copy: NULL of both", NULL, x -> x.copy(5, 0, 6, 0, 0));
        refused("copy: STORE of none", STORE, x -> x.copy(0, 0, 2, 0, 0));
        refused("copy: STORE, bytes and shorts", STORE, x -> x.copy(2, 0, 3, 0, 1));
        refused("copy: STORE and PLACE of i", STORE, x -> x.copy(0, -1, 2, 0, 1));
        refused("copy: STORE and PLACE of j", STORE, x -> x.copy(0, 0, 2, 99, 1));
        refused("copy: STORE and PLACE of n", STORE, x -> x.copy(0, 0, 2, 0, -1));
        refused("copy: PLACE of i", PLACE, x -> x.copy(0, -1, 1, 0, 1));
        refused("copy: PLACE of j", PLACE, x -> x.copy(0, 0, 1, -1, 1));
        refused("copy: PLACE of n", PLACE, x -> x.copy(0, 0, 1, 0, -1));
        refused("copy: beyond a's end", PLACE, x -> x.copy(0, 4, 1, 0, 3));
        refused("copy: beyond b's end", PLACE, x -> x.copy(0, 0, 1, 2, 3));
        refused("copy: far beyond", PLACE, x -> x.copy(0, FAR, 1, FAR, FAR));
        refused("copy: beyond its own end", PLACE, x -> x.copy(0, 0, 0, 1, 6));
        refused("drop: SHEET", BAD, x -> x.drop(8));
        refused("drop: NULL", NULL, x -> x.drop(5));
        refused("days: SHEET", BAD, x -> x.days(-1, -1, 1));
        refused("days: n and NULL", BAD, x -> x.days(5, 0, 0));
        refused("days: n and PLACE", BAD, x -> x.days(0, -1, 21));
        refused("days: NULL and PLACE", NULL, x -> x.days(5, -1, 1));
        refused("days: PLACE ahead of an ITEM that is none", PLACE, x -> x.days(1, 0, 5));
        refused("days: PLACE below", PLACE, x -> x.days(0, -1, 1));
        refused("days: an ITEM that is none, behind a BAD one", BAD, x -> x.days(1, 0, 4));
        refused("days: an ITEM that is none, alone", BAD, x -> x.days(1, 3, 1));
    }

    private static void refusedBooks() {
        refused("feed: n of 0", BAD, x -> x.feed(-1, 0));
        refused("feed: n of 9", BAD, x -> x.feed(-1, 9));
        refused("feed: n far below", BAD, x -> x.feed(-1, LEAST));
    }

    private static void refusedWorks() {
        refused("like: VALVE", BAD, x -> x.like(4, 0));
        refused("like: the other", BAD, x -> x.like(0, 4));
        refused("like: none of no VALVE", BAD, x -> x.like(-1, NONE));
        refused("like: itself", BAD, x -> x.like(0, 0));
        refused("price: SLIP", BAD, x -> x.price(4, 9));
        refused("price: 0", BAD, x -> x.price(0, 0));
        refused("price: 100", BAD, x -> x.price(0, 100));
        refused("bar: itself", BAD, x -> x.bar(0, 0, 1));
        refused("bar: a", BAD, x -> x.bar(4, 0, 1));
        refused("bar: b", BAD, x -> x.bar(0, 4, 1));
        refused("bar: is", BAD, x -> x.bar(2, 3, 2));
        refused("bar: is, of one that is there", BAD, x -> x.bar(1, 2, -1));
        refused("tick: STATE", BAD, x -> x.tick(1024));
        refused("judge: STATE", BAD, x -> x.judge(-1, 0));
        refused("judge: what", BAD, x -> x.judge(0, 2));
    }

    private static void refusedRuns() {
        refused("on: STEP", BAD, x -> x.on(17, 0));
        refused("on: STATE", BAD, x -> x.on(0, 1024));
        refused("slip: STEP", BAD, x -> x.slip(-1, 0, 0));
        refused("slip: STATE", BAD, x -> x.slip(0, -1, 0));
        refused("slip: SLIP", BAD, x -> x.slip(0, 0, 4));
        refused("run: STATE", BAD, x -> x.run(1024, 0));
        refused("run: what", BAD, x -> x.run(0, 3));
        refused("through: STATE", BAD, x -> x.through(1024, 0, 0));
        refused("through: n", BAD, x -> x.through(0, 3, 0));
        refused("through: what", BAD, x -> x.through(0, 0, 5));
        refused("cheapest: STATE", BAD, x -> x.cheapest(-1, 0));
        refused("cheapest: what", BAD, x -> x.cheapest(0, 2));
        refused("back: STATE", BAD, x -> x.back(-1, 0));
        refused("back: what", BAD, x -> x.back(0, 2));
        refused("shows: STATE", BAD, x -> x.shows(1024, 0, 0));
        refused("shows: STEP", BAD, x -> x.shows(0, 8, 0));
        refused("shows: SLIP", BAD, x -> x.shows(0, 0, 4));
        refused("fewest: STATE", BAD, x -> x.fewest(1024, 0));
        refused("fewest: what", BAD, x -> x.fewest(0, -1));
    }

    private static void refusedAsks() {
        refused("kind: STEP", BAD, x -> x.kind(8));
        refused("as: STEP", BAD, x -> x.as(8, 0));
        refused("as: STEP, and no such kind of it", BAD, x -> x.as(8, 5));
        refused("as: kind", BAD, x -> x.as(0, 6));
        refused("as: KIND", KIND, x -> x.as(0, 5));
        refused("as: KIND, a DEED that does not open", KIND, x -> x.as(2, 2));
        refused("ask: STEP", BAD, x -> x.ask(8, 0));
        refused("ask: what", BAD, x -> x.ask(0, 2));
        refused("trace: NONE", NONE, x -> x.trace(16));
        refused("count: what", BAD, x -> x.count(7));
    }

    // ---- two objects that are told the same, of which one is refused something

    /** Sheets 0 and 1 of ints, 2 of bytes, 3 of shorts; a fault, a trace, half a text on the tape. */
    private static HandBook told(int status) {
        HandBook x = Check.bookOf(BOOK);
        Check.read(x, "step end;step go 16;");
        x.sheet(0, 2, 6);
        x.sheet(1, 2, 4);
        x.sheet(2, 0, 3);
        x.sheet(3, 1, 3);
        for (int i = 0; i < 6; i++) {
            x.set(0, i, 16 * i);
        }
        x.set(1, 0, 80);
        x.set(1, 1, 1023);
        x.set(1, 3, 1024);
        x.set(2, 1, 96);
        x.set(3, 2, 1023);
        x.like(0, 1);
        x.like(1, 2);
        x.price(0, 7);
        x.price(2, 5);
        x.bar(1, 2, 1);
        x.bar(0, 3, 1);
        x.ask(0, 0);
        Check.feed(x, "step wait ");
        if (status == 2) {
            x.set(0, 99, 0);
        } else {
            x.set(0, 5, 80);
        }
        return x;
    }

    private static void changesNothing(Refused refused, int status) {
        HandBook plain = told(status);
        HandBook other = told(status);
        CHECK.is(refused.name, refused.call.of(other), refused.due);
        boolean found = refused.due <= NULL && refused.due >= STORE;
        CHECK.is("status() behind " + refused.name, other.status(), found ? -1000010 - refused.due : status);
        CHECK.is("status() without it", plain.status(), status);
        int[] due = answers(plain);
        int[] got = answers(other);
        CHECK.is("as many answers", got.length, due.length);
        for (int i = 0; i < due.length; i++) {
            CHECK.is("answer " + i + " behind " + refused.name, got[i], due[i]);
        }
    }

    /** What all that can be seen of an object answers; what changes it comes last. */
    private static int[] answers(HandBook x) {
        List<Integer> seen = new ArrayList<>();
        for (int i = 0; i < 7; i++) {
            seen.add(x.count(i));
            seen.add(x.trace(i));
            seen.add(x.tick(i + 32));
            seen.add(x.judge(16 * i, i % 2));
        }
        seen.add(x.fault());
        for (int step = 0; step < 10; step++) {
            seen.add(x.kind(step));
            for (int slip = 0; slip < 4; slip++) {
                seen.add(x.on(step, 4 * slip));
                seen.add(x.slip(step, 5 * slip, slip));
            }
        }
        for (int what = 0; what < 5; what++) {
            seen.add(x.run(0, what % 3));
            seen.add(x.through(0, 2, what));
            seen.add(x.cheapest(0, what % 2));
            seen.add(x.back(35, what % 2));
            seen.add(x.shows(0, what, 0));
            seen.add(x.fewest(0, what % 2));
        }
        sheetAnswers(x, seen);
        changingAnswers(x, seen);
        int[] all = new int[seen.size()];
        for (int i = 0; i < all.length; i++) {
            all[i] = seen.get(i);
        }
        return all;
    }

    private static void sheetAnswers(HandBook x, List<Integer> seen) {
        for (int sheet = 0; sheet < 8; sheet++) {
            for (int i = 0; i < 7; i++) {
                seen.add(x.days(sheet, i, 1));
            }
            seen.add(x.set(sheet, 0, 0x12345678));
            seen.add(x.copy(sheet, 0, 7 - sheet, 0, 0));
            seen.add(x.drop(sheet));
        }
    }

    private static void changingAnswers(HandBook x, List<Integer> seen) {
        for (int a = 0; a < 4; a++) {
            seen.add(x.price(a, 50));
            for (int b = 0; b < 4; b++) {
                seen.add(x.bar(a, b, 1));
            }
        }
        seen.add(Check.feed(x, "open 3;"));
        seen.add(x.book());
        seen.add(x.kind(8));
        seen.add(x.on(8, 8));
        seen.add(x.on(8, 0));
        seen.add(x.as(8, 3));
        seen.add(x.status());
        seen.add(x.ask(7, 0));
        seen.add(x.trace(0));
    }

    /** FULL: "none comes", BAD stands ahead of it, and status() stays. */
    private static void fullTape() {
        HandBook x = new HandBook();
        Check.feed(x, "step end;" + " ".repeat(390));
        x.drop(0);
        CHECK.is("399 bytes", x.count(6), 399);
        for (int n = 2; n <= 8; n++) {
            CHECK.is("feed of " + n + " to 399 bytes", x.feed(-1, n), FULL);
            CHECK.is("none came", x.count(6), 399);
        }
        CHECK.is("BAD ahead of FULL: 9", x.feed(-1, 9), BAD);
        CHECK.is("BAD ahead of FULL: 0", x.feed(-1, 0), BAD);
        CHECK.is("FULL leaves status()", x.status(), 1);
        CHECK.is("the 400th byte", x.feed(' ', 1), 400);
        CHECK.is("a byte more", x.feed(' ', 1), FULL);
        CHECK.is("400 stay", x.count(6), 400);
        CHECK.is("they are as they came", x.book(), 1);
    }

    /** Each call with a SHEET, and as(), behind each finding, with each of its own ends. */
    private static void everyStatus() {
        Call[] finds = {x -> x.drop(5), x -> x.set(0, 99, 0), x -> x.as(0, 5), x -> x.sheet(0, 0, -1),
            x -> x.copy(0, 0, 2, 0, 0)};
        Call[] fine = {x -> x.sheet(4, 0, 0), x -> x.set(0, 0, 1), x -> x.copy(0, 0, 1, 0, 1), x -> x.drop(0),
            x -> x.days(0, 0, 1), x -> x.as(0, 0), x -> x.as(0, 2)};
        Call[] bad = {x -> x.sheet(8, 0, 0), x -> x.sheet(0, 3, 0), x -> x.sheet(0, 0, 41), x -> x.set(8, 0, 0),
            x -> x.copy(8, 0, 0, 0, 0), x -> x.copy(0, 0, 8, 0, 0), x -> x.drop(8), x -> x.days(8, 0, 1),
            x -> x.days(0, 0, 0), x -> x.days(1, 3, 1), x -> x.as(99, 0), x -> x.as(0, 6)};
        CHECK.is("status() of a new object", new HandBook().status(), 0);
        for (int first = 0; first < finds.length; first++) {
            for (int then = 0; then < finds.length; then++) {
                HandBook x = told(0);
                CHECK.is("finding", finds[first].of(x), -1000011 - first);
                CHECK.is("status()", x.status(), first + 1);
                CHECK.is("status() asked again", x.status(), first + 1);
                CHECK.is("another finding", finds[then].of(x), -1000011 - then);
                CHECK.is("status() then", x.status(), then + 1);
            }
            for (int i = 0; i < bad.length; i++) {
                HandBook x = told(0);
                finds[first].of(x);
                CHECK.is("bad " + i, bad[i].of(x), BAD);
                CHECK.is("status() behind bad " + i, x.status(), first + 1);
            }
            for (int i = 0; i < fine.length; i++) {
                HandBook x = told(0);
                finds[first].of(x);
                CHECK.holds("fine " + i, fine[i].of(x) >= 0);
                CHECK.is("status() behind fine " + i, x.status(), 0);
            }
        }
    }

    private static void otherCallsLeaveStatus() {
        Call[] others = {x -> x.feed(' ', 1), x -> x.feed(' ', 9), x -> x.book(), x -> x.fault(), x -> x.like(0, 1),
            x -> x.like(0, 0), x -> x.price(0, 1), x -> x.price(0, 0), x -> x.bar(0, 1, 1), x -> x.bar(0, 0, 1),
            x -> x.tick(0), x -> x.judge(0, 0), x -> x.on(0, 0), x -> x.slip(0, 0, 0), x -> x.run(0, 0),
            x -> x.through(0, 1, 1), x -> x.cheapest(0, 0), x -> x.back(0, 0), x -> x.shows(0, 0, 0),
            x -> x.fewest(0, 0), x -> x.kind(0), x -> x.ask(0, 0), x -> x.ask(99, 0), x -> x.trace(0),
            x -> x.trace(99), x -> x.count(0), x -> x.count(7)};
        for (int i = 0; i < others.length; i++) {
            for (int status = 0; status <= 2; status += 2) {
                HandBook x = told(status);
                others[i].of(x);
                CHECK.is("status() behind another call, " + i, x.status(), status);
            }
        }
    }
}
