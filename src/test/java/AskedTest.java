/** Promises 23 to 28: kinds, asks, the trace, counts, status. */
public final class AskedTest {
    private static final int NONE = HandBook.NONE, BAD = HandBook.BAD, KIND = -1000013;
    private static final Check CHECK = new Check();
    // Steps 0 .. 6 of all kinds; step 2 is gone to by three others and by itself.
    private static final String ALL = "step open 3;step shut 2;step if open 0 2;step go 2;step wait open 1;step end;step if shut 1 2;step go 2;";

    public static void main(String[] args) {
        kinds();
        taken();
        asks();
        lastOf16();
        lentBodies();
        traces();
        counts();
        CHECK.end("AskedTest");
    }

    private static void kinds() {
        HandBook x = Check.bookOf(ALL);
        int[] due = {2, 1, 4, 4, 3, 5, 4, 4};
        for (int step = 0; step < due.length; step++) {
            CHECK.is("kind(" + step + ")", x.kind(step), due[step]);
        }
        CHECK.is("kind(8)", x.kind(8), BAD);
        CHECK.is("kind(-1)", x.kind(-1), BAD);
        CHECK.is("kind(16)", x.kind(16), BAD);
        CHECK.is("kind(most)", x.kind(Integer.MAX_VALUE), BAD);
    }

    private static void taken() {
        HandBook x = Check.bookOf(ALL);
        // By step the kinds that it is: bits 0 .. 5.
        int[] kinds = {7, 3, 17, 17, 9, 49, 17, 17};
        for (int step = 0; step < kinds.length; step++) {
            for (int kind = 0; kind < 6; kind++) {
                boolean is = (kinds[step] >> kind & 1) == 1;
                CHECK.is("as(" + step + ", " + kind + ")", x.as(step, kind), is ? step : KIND);
                CHECK.is("status()", x.status(), is ? 0 : 3);
            }
        }
        x.as(0, 5);
        CHECK.is("as(8, 0)", x.as(8, 0), BAD);
        CHECK.is("as(-1, 0)", x.as(-1, 0), BAD);
        CHECK.is("as(0, 6)", x.as(0, 6), BAD);
        CHECK.is("as(0, -1)", x.as(0, -1), BAD);
        CHECK.is("BAD leaves status()", x.status(), 3);
        x.sheet(0, 0, 1);
        CHECK.is("a sheet's call tells it anew", x.status(), 0);
    }

    private static void asked(HandBook x, int step, int what, int due, int... trace) {
        String call = "ask(" + step + ", " + what + ")";
        CHECK.is(call, x.ask(step, what), due);
        for (int i = 0; i < trace.length; i++) {
            CHECK.is(call + ", trace(" + i + ")", x.trace(i), trace[i]);
        }
        for (int i = trace.length; i <= 17; i++) {
            CHECK.is(call + ", behind the trace, " + i, x.trace(i), NONE);
        }
        CHECK.is(call + ", ahead of the trace", x.trace(-1), NONE);
    }

    private static void asks() {
        HandBook x = Check.bookOf(ALL);
        asked(x, 0, 0, 2 * (0 + 0 + 300), 12, 11, 10, 21, 20);
        asked(x, 0, 1, 300, 21, 20);
        asked(x, 1, 0, 0 + 1 + 200, 11, 10, 21, 20);
        asked(x, 1, 1, 201, 21, 20);
        asked(x, 2, 0, 4 - 2, 14, 10, 20);
        asked(x, 2, 1, 2, 20);
        asked(x, 3, 0, 0 - 3, 14, 10, 20);
        asked(x, 4, 0, 50, 13, 10);
        asked(x, 4, 1, 4 + 50, 22, 20, 13, 10);
        asked(x, 5, 0, 2 * (0 - (5 + 8)), 15, 14, 10, 23, 20);
        asked(x, 5, 1, 5 + 8, 23, 20);
        Check.read(x, "step go 0;step go 1;step if open 0 4;step go 5;step go 14;");
        asked(x, 0, 0, 2 * (1 + 300), 12, 11, 10, 21, 20);
        asked(x, 1, 0, 1 + 201, 11, 10, 21, 20);
        asked(x, 4, 0, 51, 13, 10);
        asked(x, 4, 1, 4 + 51, 22, 20, 13, 10);
        asked(x, 5, 0, 2 * (1 - (5 + 13)), 15, 14, 10, 23, 20);
        Check.read(x, "step go 1;step go 99;");
        asked(x, 1, 0, 1 + 201, 11, 10, 21, 20);
        HandBook first = Check.bookOf("step go 1;step go 0;step if open 0 0;step go 3;");
        asked(first, 0, 0, 2, 14, 10, 20);
        asked(first, 1, 0, 1 - 1, 14, 10, 20);
        asked(first, 3, 0, 1 - 3, 14, 10, 20);
        x.ask(5, 0);
        CHECK.is("ask(13, 0)", x.ask(13, 0), BAD);
        CHECK.is("ask(-1, 0)", x.ask(-1, 0), BAD);
        CHECK.is("ask(0, 2)", x.ask(0, 2), BAD);
        CHECK.is("ask(0, -1)", x.ask(0, -1), BAD);
        CHECK.is("a refused ask leaves the trace", x.trace(0), 15);
    }

    /** Each kind as step 15, to which the 15 others go. */
    private static void lastOf16() {
        String others = "step go 15;".repeat(15);
        asked(Check.bookOf(others + "step open 3;"), 15, 0, 2 * (15 + 15 + 300), 12, 11, 10, 21, 20);
        asked(Check.bookOf(others + "step open 3;"), 15, 1, 315, 21, 20);
        asked(Check.bookOf(others + "step shut 0;"), 15, 0, 15 + 15, 11, 10, 21, 20);
        asked(Check.bookOf(others + "step shut 3;"), 15, 1, 315, 21, 20);
        asked(Check.bookOf(others + "step wait open 0;"), 15, 0, 65, 13, 10);
        asked(Check.bookOf(others + "step wait open 0;"), 15, 1, 15 + 65, 22, 20, 13, 10);
        asked(Check.bookOf(others + "step go 15;"), 15, 0, 16 - 15, 14, 10, 20);
        asked(Check.bookOf(others + "step if open 0 15;"), 15, 1, 15, 20);
        asked(Check.bookOf(others + "step if open 0 0;"), 0, 0, 1, 14, 10, 20);
        asked(Check.bookOf(others + "step end;"), 15, 0, 2 * (15 - (15 + 16)), 15, 14, 10, 23, 20);
        asked(Check.bookOf(others + "step end;"), 15, 1, 15 + 16, 23, 20);
    }

    /** A step that goes to one not there counts for it as soon as it is; valves are no steps. */
    private static void lentBodies() {
        HandBook x = Check.bookOf("step open 1;step shut 2;step wait open 3;step go 4;");
        asked(x, 1, 0, 0 + 1 + 200, 11, 10, 21, 20);
        asked(x, 2, 0, 50, 13, 10);
        asked(x, 3, 0, 0 - 3, 14, 10, 20);
        CHECK.is("step 4 is not there", x.ask(4, 0), BAD);
        Check.read(x, "step end;");
        asked(x, 4, 0, 2 * (1 - (4 + 5)), 15, 14, 10, 23, 20);
        Check.read(x, "step if below 1 7 4;step if above 0 4 0;");
        asked(x, 4, 0, 2 * (2 - (4 + 7)), 15, 14, 10, 23, 20);
        asked(x, 4, 1, 4 + 7, 23, 20);
    }

    private static void traces() {
        HandBook x = Check.bookOf(ALL);
        CHECK.is("empty at first", x.trace(0), NONE);
        x.ask(0, 0);
        CHECK.is("trace(-1)", x.trace(-1), NONE);
        CHECK.is("trace(5)", x.trace(5), NONE);
        CHECK.is("trace(16)", x.trace(16), NONE);
        CHECK.is("trace(least)", x.trace(Integer.MIN_VALUE), NONE);
        CHECK.is("trace(most)", x.trace(Integer.MAX_VALUE), NONE);
        x.kind(1);
        x.as(0, 5);
        x.run(0, 0);
        CHECK.is("other calls leave it", x.trace(4), 20);
        x.ask(2, 1);
        CHECK.is("empty ahead of an ask", x.trace(1), NONE);
    }

    private static void counts() {
        HandBook x = Check.bookOf("flow 0 0 up;flow 1 0 up;bad open 0;bad open 1;bad open 2;good open 0;" + ALL);
        x.sheet(0, 0, 0);
        x.bar(0, 1, 1);
        x.bar(3, 1, 1);
        x.bar(1, 0, 1);
        x.feed(0, 7);
        int[] due = {1, 8, 2, 3, 1, 3, 7};
        for (int what = 0; what < due.length; what++) {
            CHECK.is("count(" + what + ")", x.count(what), due[what]);
        }
        CHECK.is("count(7)", x.count(7), BAD);
        CHECK.is("count(-1)", x.count(-1), BAD);
        x.drop(0);
        x.bar(3, 1, 0);
        x.book();
        CHECK.is("a sheet less", x.count(0), 0);
        CHECK.is("a bar less", x.count(5), 2);
        CHECK.is("an empty tape", x.count(6), 0);
    }
}
