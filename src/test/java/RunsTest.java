/** Promises 15 to 22: going on, slips, runs, all plays, the cheapest harm, ways back, what shows, bars. */
public final class RunsTest {
    private static final int NONE = HandBook.NONE, BAD = HandBook.BAD;
    private static final Check CHECK = new Check();
    // Fills height 0 above 1, then empties it again.
    private static final String FILL = "flow 0 0 up;flow 1 0 down;bad above 0 4;good below 0 1 and shut 0 and shut 1;"
        + "step open 0;step wait above 0 1;step shut 0;step open 1;step wait below 0 1;step shut 1;step end;";

    public static void main(String[] args) {
        goingOn();
        slips();
        runs();
        plays();
        hanging();
        cheapest();
        backs();
        shows();
        showsLate();
        fewest();
        wrongNumbers();
        CHECK.end("RunsTest");
    }

    private static int place(int step, int state) {
        return 1024 * step + state;
    }

    private static void goingOn() {
        HandBook x = Check.bookOf("flow 0 0 up;flow 3 1 up;step open 0;step shut 0;step wait above 0 2;"
            + "step if open 3 9;step go 2;step end;");
        CHECK.is("open", x.on(0, 0), place(1, 17));
        CHECK.is("open what is open", x.on(0, 1), place(1, 17));
        CHECK.is("shut, then a tick", x.on(1, 9), place(2, 8 + 128));
        CHECK.is("shut what is shut", x.on(1, 16), place(2, 16));
        CHECK.is("wait, holds: no tick", x.on(2, 1 + 16 * 3), place(3, 1 + 16 * 3));
        CHECK.is("wait, holds not: a tick", x.on(2, 1 + 16 * 2), place(2, 1 + 16 * 3));
        CHECK.is("wait, nothing flows", x.on(2, 0), place(2, 0));
        CHECK.is("if, holds: a step that is not there", x.on(3, 8), place(9, 8));
        CHECK.is("if, holds not", x.on(3, 7), place(4, 7));
        CHECK.is("go", x.on(4, 1023), place(2, 1023));
        CHECK.is("end", x.on(5, 3), NONE);
        CHECK.is("not there", x.on(6, 3), NONE);
        CHECK.is("nor there", x.on(16, 3), NONE);
        Check.read(x, "step shut 1;".repeat(10));
        CHECK.is("the last step", x.on(15, 2), place(16, 0));
        CHECK.is("behind the last step", x.on(16, 2), NONE);
    }

    private static void slips() {
        HandBook x = Check.bookOf("flow 0 0 up;step open 0;step open 1;step shut 1;step wait below 0 1;"
            + "step if open 3 9;step go 2;step end;");
        x.like(1, 0);
        CHECK.is("open skipped: no tick", x.slip(0, 1, 0), place(1, 1));
        CHECK.is("no like", x.slip(0, 1, 1), NONE);
        CHECK.is("open is not short", x.slip(0, 1, 2), NONE);
        CHECK.is("away not at step 0", x.slip(0, 1, 3), NONE);
        CHECK.is("open alike", x.slip(1, 0, 1), place(2, 17));
        CHECK.is("away", x.slip(1, 5, 3), place(0, 5));
        CHECK.is("shut skipped", x.slip(2, 3, 0), place(3, 3));
        CHECK.is("shut alike", x.slip(2, 3, 1), place(3, 2));
        CHECK.is("shut is not short", x.slip(2, 3, 2), NONE);
        CHECK.is("shut away", x.slip(2, 3, 3), place(1, 3));
        CHECK.is("wait skipped", x.slip(3, 17, 0), place(4, 17));
        CHECK.is("wait alike", x.slip(3, 17, 1), NONE);
        CHECK.is("wait short", x.slip(3, 17, 2), place(4, 33));
        CHECK.is("wait not short when it holds", x.slip(3, 1, 2), NONE);
        CHECK.is("wait skipped when it holds", x.slip(3, 1, 0), place(4, 1));
        CHECK.is("wait away", x.slip(3, 1, 3), place(2, 1));
        for (int slip = 0; slip < 4; slip++) {
            CHECK.is("if", x.slip(4, 8, slip), NONE);
            CHECK.is("go", x.slip(5, 8, slip), NONE);
            CHECK.is("end", x.slip(6, 8, slip), NONE);
            CHECK.is("not there", x.slip(7, 8, slip), NONE);
            CHECK.is("nor there", x.slip(16, 8, slip), NONE);
        }
        HandBook waits = Check.bookOf("step wait open 0;");
        CHECK.is("a wait at step 0 has no away", waits.slip(0, 0, 3), NONE);
    }

    private static void runs() {
        HandBook x = Check.bookOf(FILL);
        CHECK.is("ends in", x.run(0, 0), 0);
        CHECK.is("ticks", x.run(0, 1), 6);
        CHECK.is("no bad", x.run(0, 2), 0);
        CHECK.is("from a height of 6", x.run(96, 2), 1);
        CHECK.is("bad at first alone", x.run(2 + 16 * 5, 2), 1);
        CHECK.is("no steps", new HandBook().run(1023, 0), 1023);
        CHECK.is("no ticks", new HandBook().run(1023, 1), 0);
        HandBook hangs = Check.bookOf("flow 0 0 up;bad above 0 6;step open 0;step wait shut 0;");
        CHECK.is("never ends", hangs.run(0, 0), NONE);
        CHECK.is("nor counts ticks", hangs.run(0, 1), NONE);
        CHECK.is("but comes to a bad one", hangs.run(0, 2), 1);
        HandBook turns = Check.bookOf("bad open 1;step go 1;step go 0;");
        CHECK.is("turns for ever", turns.run(5, 0), NONE);
        CHECK.is("without harm", turns.run(5, 2), 0);
        CHECK.is("bad from the start", turns.run(2, 2), 1);
        CHECK.is("and no longer", turns.run(5, 2), 0);
        HandBook away = Check.bookOf("step go 15;step end;");
        CHECK.is("ends at a step that is not there", away.run(7, 0), 7);
        CHECK.is("without a tick", away.run(7, 1), 0);
    }

    private static void all(String name, HandBook x, int state, int n, int... due) {
        for (int what = 0; what < due.length; what++) {
            CHECK.is(name + ": through(" + state + ", " + n + ", " + what + ")", x.through(state, n, what), due[what]);
        }
    }

    private static void plays() {
        HandBook fill = Check.bookOf(FILL);
        all("fill", fill, 0, 0, 9, 0, 1, 1, 0);
        HandBook one = Check.bookOf("step open 0;");
        all("one step", one, 0, 0, 2, 0, 1, 1, 0);
        all("one step", one, 0, 1, 3, 0, 2, 2, 0);
        all("one step", one, 0, 2, 3, 0, 2, 2, 0);
        one.like(0, 1);
        all("with a like", one, 0, 1, 4, 0, 3, 3, 0);
        HandBook two = Check.bookOf("good shut 0;step open 0;step open 1;");
        all("two steps", two, 0, 0, 3, 0, 1, 0, 0);
        all("two steps", two, 0, 1, 9, 0, 3, 1, 0);
        all("two steps", two, 0, 2, 15, 0, 4, 2, 0);
        Check.read(two, "bad open 1;");
        all("bad is not good", two, 0, 2, 15, 1, 4, 1, 0);
        HandBook first = Check.bookOf("bad shut 0;step open 0;step end;");
        all("behind a bad state", first, 0, 0, 2, 1, 1, 1, 0);
        all("no bad state", first, 1, 0, 2, 0, 1, 1, 0);
        HandBook ends = Check.bookOf("step if open 0 2;step end;step end;");
        all("ends told once by their states", ends, 0, 0, 2, 0, 1, 1, 0);
    }

    private static void hanging() {
        HandBook turns = Check.bookOf("step go 0;");
        all("turns", turns, 5, 2, 1, 0, 0, 0, 1);
        HandBook waits = Check.bookOf("step wait open 3;step end;");
        all("waits", waits, 0, 0, 1, 0, 0, 0, 1);
        all("waits", waits, 0, 1, 2, 0, 1, 1, 1);
        HandBook into = Check.bookOf("step open 0;step go 3;step end;step go 1;");
        all("a way into a turn", into, 0, 0, 3, 0, 0, 0, 3);
        // With its slip it comes to two of the same places: they are counted with each number of slips.
        all("twice", into, 1, 0, 3, 0, 0, 0, 3);
        all("twice", into, 1, 1, 5, 0, 0, 0, 5);
        // What an earlier search of another sort left behind is not taken for one's own.
        HandBook mixed = Check.bookOf(FILL);
        mixed.like(0, 1);
        mixed.like(1, 0);
        HandBook fresh = Check.bookOf(FILL);
        fresh.like(0, 1);
        fresh.like(1, 0);
        int due = fresh.through(0, 2, 4);
        for (int i = 0; i < 150; i++) {
            mixed.cheapest(0, 0);
            mixed.back(33, 0);
            CHECK.is("hanging, time and again", mixed.through(0, 2, 4), due);
        }
    }

    private static void cheapest() {
        HandBook x = Check.bookOf(FILL);
        CHECK.is("two skipped", x.cheapest(0, 0), 2);
        CHECK.is("the first at step 2", x.cheapest(0, 1), 8);
        x.price(0, 9);
        CHECK.is("three times away", x.cheapest(0, 0), 12);
        CHECK.is("the first at step 1", x.cheapest(0, 1), 7);
        CHECK.is("bad from the start", x.cheapest(96, 0), 0);
        CHECK.is("no first then", x.cheapest(96, 1), NONE);
        HandBook none = Check.bookOf("bad open 3;step open 0;step shut 1;");
        CHECK.is("no way", none.cheapest(0, 0), NONE);
        CHECK.is("no first either", none.cheapest(0, 1), NONE);
        HandBook plain = Check.bookOf("bad open 0;step open 0;");
        CHECK.is("without any", plain.cheapest(0, 0), 0);
        CHECK.is("costs nothing", plain.cheapest(0, 1), NONE);
        HandBook tie = Check.bookOf("bad open 1;step shut 0;step open 0;step open 0;step wait open 1;");
        tie.like(0, 1);
        CHECK.is("two ways", tie.cheapest(0, 0), 2);
        CHECK.is("the least first", tie.cheapest(0, 1), 5);
        tie.price(1, 99);
        CHECK.is("dear", tie.cheapest(0, 0), 99);
        HandBook mixed = Check.bookOf("bad open 1 and shut 0;step open 0;step open 1;step wait open 2;");
        CHECK.is("skipped once", mixed.cheapest(0, 0), 1);
        CHECK.is("at step 0", mixed.cheapest(0, 1), 0);
    }

    private static void backs() {
        HandBook x = Check.bookOf("flow 0 0 up;flow 1 0 down;bad above 0 5;good below 0 1 and shut 0;");
        back(x, 0, 0, NONE);
        back(x, 14, 0, NONE);
        back(x, 1, 1, 1);
        back(x, 32, 2, 2);
        back(x, 34, 2, 0);
        back(x, 33, 3, 1);
        back(x, 81, 6, 1);
        back(x, 96, NONE, NONE);
        x.bar(1, 0, 1);
        back(x, 33, 3, 1);
        x.bar(1, 2, 1);
        back(x, 36, 3, 3);
        HandBook last = Check.bookOf("good open 3;");
        back(last, 0, 1, 4);
        HandBook none = Check.bookOf("good above 1 0;");
        back(none, 0, NONE, NONE);
        back(none, 128, 0, NONE);
        HandBook gap = Check.bookOf("flow 0 0 up;flow 1 0 up;bad above 0 2 and below 0 4;good above 0 5;");
        back(gap, 16, 3, 1);
        back(gap, 32, NONE, NONE);
        HandBook barred = Check.bookOf("good open 0;");
        back(barred, 2, 1, 1);
        barred.bar(0, 1, 1);
        back(barred, 2, 2, 2);
    }

    private static void back(HandBook x, int state, int deeds, int first) {
        CHECK.is("back(" + state + ", 0)", x.back(state, 0), deeds);
        CHECK.is("back(" + state + ", 1)", x.back(state, 1), first);
    }

    private static void shows() {
        HandBook x = Check.bookOf(FILL);
        CHECK.is("open skipped", x.shows(0, 0, 0), 1);
        CHECK.is("no like", x.shows(0, 0, 1), NONE);
        CHECK.is("no away at step 0", x.shows(0, 0, 3), NONE);
        CHECK.is("wait skipped", x.shows(0, 1, 0), 2);
        CHECK.is("short by nothing", x.shows(0, 1, 2), NONE);
        CHECK.is("shut skipped", x.shows(0, 2, 0), 4);
        CHECK.is("away without a trace", x.shows(0, 2, 3), NONE);
        CHECK.is("away", x.shows(0, 3, 3), 4);
        CHECK.is("the last heights are kept, and like", x.shows(0, 5, 0), NONE);
        CHECK.is("the end has no slips", x.shows(0, 6, 0), NONE);
        HandBook fewer = Check.bookOf("flow 0 0 up;step open 0;step wait above 0 2;step end;");
        CHECK.is("the last heights are kept", fewer.shows(0, 1, 0), 2);
        HandBook stands = Check.bookOf("flow 0 0 up;step open 0;step go 1;");
        CHECK.is("a turn without ticks keeps them, too", stands.shows(0, 0, 0), 1);
        HandBook second = Check.bookOf("flow 0 0 up;step wait below 0 1;step open 0;step shut 0;step if below 0 2 0;");
        CHECK.is("when it can be made", second.shows(0, 0, 2), 4);
        HandBook valves = Check.bookOf("step open 0;");
        CHECK.is("valves show nothing", valves.shows(0, 0, 0), NONE);
        HandBook other = Check.bookOf("flow 3 1 up;step open 3;");
        CHECK.is("height 1 shows, too", other.shows(0, 0, 0), 1);
        HandBook away = Check.bookOf("step end;step open 0;");
        CHECK.is("never comes to it", away.shows(0, 1, 0), NONE);
        HandBook still = Check.bookOf("flow 0 0 up;" + "step wait shut 3;".repeat(14) + "step open 0;step go 0;");
        CHECK.is("a tick comes, though late", still.shows(0, 14, 0), NONE);
    }

    private static void showsLate() {
        // Three rounds of 18 ticks, less what height 0 is at first; then what is skipped shows.
        HandBook x = Check.bookOf("flow 0 0 up;flow 1 0 down;flow 2 1 up;step open 0;step wait above 0 6;step shut 0;"
            + "step open 1;step wait below 0 1;step shut 1;step open 2;step shut 2;step if below 1 3 0;"
            + "step open 0;step shut 0;");
        CHECK.is("ticks in all", x.run(0, 1), 56);
        CHECK.is("tick 50", x.shows(16 * 5, 9, 0), 50);
        CHECK.is("tick 51", x.shows(16 * 4, 9, 0), NONE);
        CHECK.is("tick 49", x.shows(16 * 6, 9, 0), 49);
    }

    private static void bars(HandBook x, int state, int fewest, int bits) {
        CHECK.is("fewest(" + state + ", 0)", x.fewest(state, 0), fewest);
        CHECK.is("fewest(" + state + ", 1)", x.fewest(state, 1), bits);
    }

    private static void fewest() {
        String deeds = "bad open 0 and open 1;step open 0;step shut 0;step open 1;step shut 1;";
        HandBook x = Check.bookOf(deeds);
        bars(x, 0, 1, 16);
        CHECK.is("none came", x.count(5), 0);
        x.bar(1, 0, 1);
        bars(x, 0, 0, 0);
        CHECK.is("none went", x.count(5), 1);
        HandBook again = Check.bookOf(deeds + "step go 0;");
        bars(again, 0, 2, 18);
        again.bar(1, 0, 1);
        bars(again, 0, 1, 2);
        again.bar(1, 0, 0);
        bars(again, 3, NONE, NONE);
        HandBook none = Check.bookOf("bad open 0;step open 0;");
        bars(none, 0, NONE, NONE);
        HandBook least = Check.bookOf("bad open 0 and open 1 and open 2;step open 0;step open 1;step shut 1;step open 2;");
        bars(least, 0, 1, 16);
        least.bar(1, 0, 1);
        bars(least, 0, 0, 0);
        HandBook three = Check.bookOf("bad open 0 and open 1;bad open 1 and open 2;bad open 2 and open 0;"
            + "step open 0;step shut 0;step open 1;step shut 1;step open 2;step shut 2;step go 0;");
        bars(three, 0, NONE, NONE);
        HandBook high = Check.bookOf("bad open 3 and open 2;step open 2;step shut 2;step open 3;");
        bars(high, 0, 1, 1 << 14);
    }

    private static void wrongNumbers() {
        HandBook x = Check.bookOf(FILL);
        int[] noState = {-1, 1024, Integer.MAX_VALUE, Integer.MIN_VALUE, NONE};
        for (int s : noState) {
            CHECK.is("on(0, " + s + ")", x.on(0, s), BAD);
            CHECK.is("slip(0, " + s + ", 0)", x.slip(0, s, 0), BAD);
            CHECK.is("run(" + s + ", 0)", x.run(s, 0), BAD);
            CHECK.is("through(" + s + ", 0, 0)", x.through(s, 0, 0), BAD);
            CHECK.is("cheapest(" + s + ", 0)", x.cheapest(s, 0), BAD);
            CHECK.is("back(" + s + ", 0)", x.back(s, 0), BAD);
            CHECK.is("shows(" + s + ", 0, 0)", x.shows(s, 0, 0), BAD);
            CHECK.is("fewest(" + s + ", 0)", x.fewest(s, 0), BAD);
        }
        int[] far = {-1, 99, Integer.MAX_VALUE, Integer.MIN_VALUE};
        for (int v : far) {
            CHECK.is("on step " + v, x.on(v, 0), BAD);
            CHECK.is("slip step " + v, x.slip(v, 0, 0), BAD);
            CHECK.is("slip " + v, x.slip(0, 0, v), BAD);
            CHECK.is("run what " + v, x.run(0, v), BAD);
            CHECK.is("through n " + v, x.through(0, v, 0), BAD);
            CHECK.is("through what " + v, x.through(0, 0, v), BAD);
            CHECK.is("cheapest what " + v, x.cheapest(0, v), BAD);
            CHECK.is("back what " + v, x.back(0, v), BAD);
            CHECK.is("shows step " + v, x.shows(0, v, 0), BAD);
            CHECK.is("shows slip " + v, x.shows(0, 0, v), BAD);
            CHECK.is("fewest what " + v, x.fewest(0, v), BAD);
        }
        CHECK.is("on(17, 0)", x.on(17, 0), BAD);
        CHECK.is("slip(17, 0, 0)", x.slip(17, 0, 0), BAD);
        CHECK.is("slip(0, 0, 4)", x.slip(0, 0, 4), BAD);
        CHECK.is("run(0, 3)", x.run(0, 3), BAD);
        CHECK.is("through(0, 3, 0)", x.through(0, 3, 0), BAD);
        CHECK.is("through(0, 0, 5)", x.through(0, 0, 5), BAD);
        CHECK.is("cheapest(0, 2)", x.cheapest(0, 2), BAD);
        CHECK.is("back(0, 2)", x.back(0, 2), BAD);
        CHECK.is("shows(0, 7, 0)", x.shows(0, 7, 0), BAD);
        CHECK.is("shows(0, 0, 4)", x.shows(0, 0, 4), BAD);
        CHECK.is("fewest(0, 2)", x.fewest(0, 2), BAD);
    }
}
