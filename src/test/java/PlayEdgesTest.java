/**
 * Sections 2 and 3 and promises 15 to 22 at their edges: steps that are not there, slips that cannot
 * be made, 0 to 2 slips, what costs nothing, ways back from bad and good states, 50 ticks, 0 to 2 bars.
 */
public final class PlayEdgesTest {
    private static final int NONE = HandBook.NONE;
    private static final Check CHECK = new Check();
    // No slip, one, two, three slips are needed until a bad state is come to.
    private static final String HARM_0 = "bad open 3;step open 3;";
    private static final String HARM_1 = "bad shut 0 and open 3;step open 0;step open 3;";
    private static final String HARM_2 = "bad shut 0 and shut 1 and open 3;step open 0;step open 1;step open 3;";
    private static final String HARM_3 = "flow 2 1 down;flow 3 1 up;bad shut 0 and shut 1 and above 1 0;"
        + "step open 0;step open 1;step open 2;step open 3;";

    public static void main(String[] args) {
        stepsNotThere();
        lastStep();
        slipsThatCannotBe();
        slipsAtSomePlaces();
        pricesTheyHave();
        runsThatEndOrNot();
        slipsMade();
        itselfToo();
        behindBadStates();
        placesWithSlips();
        endings();
        hanging();
        costs();
        firstSlips();
        backFromBadAndGood();
        backNotThroughBad();
        firstDeeds();
        showsAtItsEnds();
        showsFewerTicks();
        showsOnce();
        barsMore();
        leastSet();
        CHECK.end("PlayEdgesTest");
    }

    private static int place(int step, int state) {
        return 1024 * step + state;
    }

    /** "end, and a STEP that is not there: it ENDS there". */
    private static void stepsNotThere() {
        for (int n = 0; n <= 16; n++) {
            HandBook x = Check.bookOf("step shut 0;".repeat(n));
            for (int step = 0; step <= 16; step++) {
                int due = step < n ? place(step + 1, 2) : NONE;
                CHECK.is(n + " steps, on(" + step + ", 3)", x.on(step, 3), due);
                CHECK.is(n + " steps, skipped at " + step, x.slip(step, 3, 0), step < n ? place(step + 1, 3) : NONE);
            }
            CHECK.is(n + " steps end in", x.run(1023, 0), n == 0 ? 1023 : 1022);
            CHECK.is(n + " steps take ticks", x.run(1023, 1), n);
        }
        HandBook go = Check.bookOf("step go 15;step open 0;");
        CHECK.is("go to a step not there", go.on(0, 6), place(15, 6));
        CHECK.is("ends there", go.run(6, 0), 6);
        CHECK.is("without a tick", go.run(6, 1), 0);
        HandBook turn = Check.bookOf("step if open 1 2;step open 0;");
        CHECK.is("if to a step not there", turn.run(6, 0), 6);
        CHECK.is("else the next one", turn.run(4, 0), 5);
        Check.read(turn, "step open 3;");
        CHECK.is("there it is now", turn.run(6, 0), 14);
        HandBook end = Check.bookOf("step end;step open 0;");
        CHECK.is("end", end.on(0, 9), NONE);
        CHECK.is("ends there, not at the next", end.run(9, 0), 9);
    }

    /** STEP 15 is the last one; behind it is STEP 16, which is never there. */
    private static void lastStep() {
        String[] acts = {"open 0", "shut 0", "wait open 0", "if open 0 3", "go 3", "end"};
        int[] shut = {place(16, 17), place(16, 0), place(15, 0), place(16, 0), place(3, 0), NONE};
        int[] open = {place(16, 17), place(16, 0), place(16, 1), place(3, 1), place(3, 1), NONE};
        for (int i = 0; i < acts.length; i++) {
            HandBook x = Check.bookOf("flow 0 0 up;" + "step end;".repeat(15) + "step " + acts[i] + ";");
            CHECK.is(acts[i] + " at step 15, shut", x.on(15, 0), shut[i]);
            CHECK.is(acts[i] + " at step 15, open", x.on(15, 1), open[i]);
            CHECK.is("behind it", x.on(16, 1), NONE);
            for (int slip = 0; slip < 4; slip++) {
                CHECK.is("no slip behind it", x.slip(16, 0, slip), NONE);
            }
        }
    }

    /** The slips of each act, at STEP 0 and behind it: what cannot be made is NONE. */
    private static void slipsThatCannotBe() {
        String[] turns = {"if open 0 1", "if shut 0 1", "go 1", "end"};
        for (String act : turns) {
            HandBook x = Check.bookOf("step " + act + ";step " + act + ";");
            for (int valve = 0; valve < 4; valve++) {
                x.like(valve, (valve + 1) % 4);
            }
            for (int slip = 0; slip < 4; slip++) {
                for (int state = 0; state < 2; state++) {
                    CHECK.is(act + " at step 0, slip " + slip, x.slip(0, state, slip), NONE);
                    CHECK.is(act + " at step 1, slip " + slip, x.slip(1, state, slip), NONE);
                    CHECK.is("at a step not there, slip " + slip, x.slip(2, state, slip), NONE);
                }
            }
        }
        HandBook waits = Check.bookOf("step wait open 0;step wait open 0;");
        for (int valve = 0; valve < 4; valve++) {
            waits.like(valve, (valve + 1) % 4);
        }
        CHECK.is("a wait is not ALIKE", waits.slip(0, 0, 1), NONE);
        CHECK.is("nor when it holds", waits.slip(1, 1, 1), NONE);
        CHECK.is("SHORT when the cond holds", waits.slip(1, 1, 2), NONE);
        CHECK.is("SHORT when it does not", waits.slip(1, 0, 2), place(2, 0));
        CHECK.is("AWAY at STEP 0", waits.slip(0, 0, 3), NONE);
        CHECK.is("AWAY at STEP 1", waits.slip(1, 0, 3), place(0, 0));
        CHECK.is("AWAY when it holds", waits.slip(1, 1, 3), place(0, 1));
        for (String act : new String[] {"open 0", "shut 0"}) {
            HandBook deeds = Check.bookOf(("step " + act + ";").repeat(16));
            CHECK.is(act + " without a LIKE one", deeds.slip(1, 1, 1), NONE);
            deeds.like(1, 0);
            CHECK.is("nor if it is another's like", deeds.slip(1, 1, 1), NONE);
            CHECK.is(act + " is not SHORT", deeds.slip(1, 1, 2), NONE);
            CHECK.is("AWAY at STEP 0", deeds.slip(0, 1, 3), NONE);
            CHECK.is("AWAY at STEP 1", deeds.slip(1, 1, 3), place(0, 1));
            CHECK.is("AWAY at STEP 15", deeds.slip(15, 1023, 3), place(14, 1023));
            CHECK.is("SKIPPED at STEP 0", deeds.slip(0, 1, 0), place(1, 1));
            CHECK.is("SKIPPED at STEP 15", deeds.slip(15, 1023, 0), place(16, 1023));
        }
    }

    /** SKIPPED and AWAY do nothing else; ALIKE and SHORT have their TICK. */
    private static void slipsAtSomePlaces() {
        HandBook x = Check.bookOf("flow 0 0 up;flow 1 1 up;step end;step open 0;step shut 0;step wait above 0 3;");
        x.like(0, 1);
        CHECK.is("SKIPPED, no tick", x.slip(1, 3, 0), place(2, 3));
        CHECK.is("AWAY, no tick", x.slip(1, 3, 3), place(0, 3));
        CHECK.is("ALIKE opens the like one, then a tick", x.slip(1, 0, 1), place(2, 2 + 128));
        CHECK.is("ALIKE of an open one", x.slip(1, 3, 1), place(2, 3 + 16 + 128));
        CHECK.is("ALIKE shuts the like one, then a tick", x.slip(2, 3, 1), place(3, 1 + 16));
        CHECK.is("SHORT, a tick", x.slip(3, 1 + 16 * 2, 2), place(4, 1 + 16 * 3));
        CHECK.is("SHORT, though its tick makes it hold", x.slip(3, 1 + 16 * 3, 2), place(4, 1 + 16 * 4));
        CHECK.is("no SHORT one above", x.slip(3, 1 + 16 * 4, 2), NONE);
        CHECK.is("a wait SKIPPED, no tick", x.slip(3, 1, 0), place(4, 1));
        CHECK.is("a wait AWAY, no tick", x.slip(3, 1, 3), place(2, 1));
    }

    /** "Each has a PRICE (1 to 99; 1, 2, 3, 4 at first)". */
    private static void pricesTheyHave() {
        String[] books = {"step open 0;step open 3;", "step open 1;step end;",
            "step wait below 1 0;step open 3;", "step go 2;step open 3;step shut 1;step end;"};
        int[] firsts = {0, 1, 2, 4 * 2 + 3};
        for (int slip = 0; slip < 4; slip++) {
            String bad = slip == 0 ? "bad shut 0 and open 3;" : "bad open 3;";
            HandBook x = Check.bookOf(bad + books[slip]);
            x.like(1, 3);
            x.price(0, slip == 2 ? 99 : 1);
            CHECK.is("at first, slip " + slip, x.cheapest(0, 0), slip + 1);
            CHECK.is("that slip", x.cheapest(0, 1), firsts[slip]);
            if (slip != 2) {
                CHECK.is("what it was", x.price(slip, 99), slip + 1);
                CHECK.is("99", x.cheapest(0, 0), 99);
                CHECK.is("what it was then", x.price(slip, 1), 99);
                CHECK.is("1", x.cheapest(0, 0), 1);
            }
        }
    }

    /** "the STATE in which it ENDS (NONE: it never does), how many TICKS till then (NONE)". */
    private static void runsThatEndOrNot() {
        HandBook waits = Check.bookOf("flow 0 0 up;bad above 0 6;step wait above 0 6;step shut 0;");
        CHECK.is("waits till the height is 7", waits.run(1, 0), 16 * 7);
        CHECK.is("seven ticks and one", waits.run(1, 1), 8);
        CHECK.is("comes to a bad one", waits.run(1, 2), 1);
        CHECK.is("nothing flows: for ever", waits.run(0, 0), NONE);
        CHECK.is("no ticks are told", waits.run(0, 1), NONE);
        CHECK.is("no bad one", waits.run(0, 2), 0);
        HandBook round = Check.bookOf("flow 0 0 up;flow 1 0 down;bad above 0 6;step open 0;step wait above 0 6;"
            + "step shut 0;step open 1;step wait below 0 1;step shut 1;step go 0;");
        CHECK.is("a round for ever", round.run(0, 0), NONE);
        CHECK.is("of ticks", round.run(0, 1), NONE);
        CHECK.is("through a bad one", round.run(0, 2), 1);
        HandBook hold = Check.bookOf("bad open 0;step wait shut 0;");
        CHECK.is("bad where it hangs", hold.run(1, 2), 1);
        CHECK.is("it hangs", hold.run(1, 0), NONE);
        HandBook last = Check.bookOf(HARM_0);
        CHECK.is("bad where it ends alone", last.run(0, 2), 1);
        CHECK.is("it ends", last.run(0, 0), 8);
        HandBook first = Check.bookOf("bad shut 3;step open 3;");
        CHECK.is("bad where it begins alone", first.run(0, 2), 1);
        CHECK.is("not bad", first.run(8, 2), 0);
    }

    /** "THROUGH from a STATE with n SLIPS at most (0 to 2)". */
    private static void slipsMade() {
        String[] books = {HARM_0, HARM_1, HARM_2, HARM_3};
        for (int needed = 0; needed < books.length; needed++) {
            HandBook x = Check.bookOf(books[needed]);
            for (int n = 0; n <= 2; n++) {
                CHECK.is(needed + " are needed, " + n + " made", x.through(0, n, 1), n >= needed ? 1 : 0);
            }
            CHECK.is(needed + " skipped cost", x.cheapest(0, 0), needed);
            CHECK.is("without one", x.run(0, 2), needed == 0 ? 1 : 0);
        }
    }

    private static void through(HandBook x, int state, int n, int... due) {
        for (int what = 0; what < due.length; what++) {
            CHECK.is("through(" + state + ", " + n + ", " + what + ")", x.through(state, n, what), due[what]);
        }
    }

    /** "that are come to from STEP 0 and that STATE (itself, too)". */
    private static void itselfToo() {
        HandBook none = new HandBook();
        HandBook bad = Check.bookOf("bad open 0;");
        for (int n = 0; n <= 2; n++) {
            through(none, 1023, n, 1, 0, 1, 1, 0);
            through(bad, 1, n, 1, 1, 1, 0, 0);
            through(bad, 2, n, 1, 0, 1, 1, 0);
        }
        HandBook leaves = Check.bookOf("bad shut 0;step open 0;");
        through(leaves, 0, 0, 2, 1, 1, 1, 0);
        through(leaves, 1, 0, 2, 0, 1, 1, 0);
    }

    /** "behind BAD STATES, too". */
    private static void behindBadStates() {
        HandBook x = Check.bookOf("bad open 0;step open 0;step shut 0;step open 1;");
        through(x, 0, 0, 4, 1, 1, 1, 0);
        // From (0; 0) SKIPPED, from (1; 1) SKIPPED and AWAY, from (2; 0) SKIPPED and AWAY, and what follows:
        // (1; 0), (2; 1), (0; 1), (3; 0), (1; 1), (2; 0), (3; 2), (3; 3).
        through(x, 0, 1, 12, 1, 3, 2, 0);
        HandBook hangs = Check.bookOf("bad open 0;step open 0;step wait shut 0;step open 1;");
        through(hangs, 0, 0, 2, 1, 0, 0, 2);
    }

    /** "all PLACES, each with how many SLIPS were made". */
    private static void placesWithSlips() {
        HandBook one = Check.bookOf("step shut 0;");
        through(one, 0, 0, 2, 0, 1, 1, 0);
        through(one, 0, 1, 3, 0, 1, 1, 0);
        through(one, 0, 2, 3, 0, 1, 1, 0);
        HandBook two = Check.bookOf("step shut 0;step shut 1;");
        through(two, 0, 0, 3, 0, 1, 1, 0);
        through(two, 0, 1, 6, 0, 1, 1, 0);
        through(two, 0, 2, 9, 0, 1, 1, 0);
        HandBook end = Check.bookOf("step end;step open 0;");
        through(end, 5, 2, 1, 0, 1, 1, 0);
    }

    /** "in how many unlike STATES it ENDS (2), how many of these are GOOD (3)". */
    private static void endings() {
        HandBook x = Check.bookOf("step open 0;step open 1;");
        through(x, 0, 0, 3, 0, 1, 1, 0);
        through(x, 0, 1, 9, 0, 3, 3, 0);
        through(x, 0, 2, 15, 0, 4, 4, 0);
        Check.read(x, "good open 0;");
        through(x, 0, 2, 15, 0, 4, 2, 0);
        Check.read(x, "bad open 0 and open 1;");
        through(x, 0, 2, 15, 1, 4, 1, 0);
        Check.read(x, "bad open 0;");
        through(x, 0, 2, 15, 1, 4, 0, 0);
        HandBook same = Check.bookOf("step if open 0 2;step end;step shut 1;step end;");
        through(same, 0, 0, 2, 0, 1, 1, 0);
        // It ends at two steps, but in one state.
        through(same, 1, 1, 5, 0, 1, 1, 0);
    }

    /** "of what is counted for 0, how many never END by GOING ON alone from there". */
    private static void hanging() {
        HandBook waits = Check.bookOf("step wait open 0;");
        through(waits, 0, 0, 1, 0, 0, 0, 1);
        through(waits, 0, 1, 2, 0, 1, 1, 1);
        through(waits, 0, 2, 2, 0, 1, 1, 1);
        HandBook x = Check.bookOf("step open 0;step wait shut 0;");
        through(x, 0, 0, 2, 0, 0, 0, 2);
        through(x, 0, 1, 7, 0, 2, 2, 4);
        through(x, 0, 2, 12, 0, 2, 2, 7);
    }

    /** "0, if it is without any; NONE"; "NONE: nothing, or there is no way". */
    private static void costs() {
        HandBook x = Check.bookOf("bad open 3;step open 0;step open 3;");
        CHECK.is("bad itself", x.cheapest(8, 0), 0);
        CHECK.is("no first", x.cheapest(8, 1), NONE);
        CHECK.is("bad without any", x.cheapest(0, 0), 0);
        CHECK.is("no first then", x.cheapest(0, 1), NONE);
        HandBook none = new HandBook();
        CHECK.is("no steps", none.cheapest(1023, 0), NONE);
        CHECK.is("no first of none", none.cheapest(1023, 1), NONE);
        HandBook safe = Check.bookOf("bad open 3;step open 0;step wait open 1;step shut 2;");
        CHECK.is("no way", safe.cheapest(0, 0), NONE);
        CHECK.is("no first of no way", safe.cheapest(0, 1), NONE);
        HandBook many = Check.bookOf(HARM_3);
        CHECK.is("as many as wanted", many.cheapest(0, 0), 3);
        CHECK.is("the first of three", many.cheapest(0, 1), 0);
        many.price(0, 99);
        CHECK.is("three of the dearest", many.cheapest(0, 0), 297);
        CHECK.is("the first of these", many.cheapest(0, 1), 0);
        // Height 0 falls again and again, but what was lost is made up by going back 7 times.
        HandBook far = Check.bookOf("flow 0 0 up;bad above 0 6;step open 0;step shut 0;step end;");
        CHECK.is("six times AWAY, but for the first", far.cheapest(0, 0), 24);
        CHECK.is("at step 1", far.cheapest(0, 1), 7);
        CHECK.is("a height of 6 is one away", far.cheapest(16 * 5, 0), 4);
        CHECK.is("a height of 7 without any", far.cheapest(16 * 6, 0), 0);
    }

    /** "the SLIP that is made first: 4 times its STEP and the SLIP, of several the least". */
    private static void firstSlips() {
        HandBook last = Check.bookOf("bad open 1;step go 15;" + "step end;".repeat(13) + "step open 1;step shut 0;");
        CHECK.is("AWAY at step 15", last.cheapest(0, 0), 4);
        CHECK.is("the greatest number", last.cheapest(0, 1), 63);
        last.price(3, 99);
        CHECK.is("at 99", last.cheapest(0, 0), 99);
        CHECK.is("the same", last.cheapest(0, 1), 63);
        HandBook slips = Check.bookOf("flow 0 0 up;bad open 1 and below 0 3;step wait above 0 1;step open 1;");
        CHECK.is("SKIPPED is cheaper than SHORT", slips.cheapest(1, 0), 1);
        slips.price(0, 3);
        CHECK.is("both cost as much", slips.cheapest(1, 0), 3);
        CHECK.is("the least SLIP of a STEP", slips.cheapest(1, 1), 0);
        slips.price(0, 4);
        CHECK.is("SHORT costs less", slips.cheapest(1, 0), 3);
        CHECK.is("SHORT", slips.cheapest(1, 1), 2);
        HandBook order = Check.bookOf("bad shut 0 and open 3;bad shut 1 and open 3;step go 3;step open 1;step go 5;"
            + "step open 0;step go 1;step open 3;");
        CHECK.is("one of two skipped", order.cheapest(0, 0), 1);
        CHECK.is("the least STEP, though it comes later", order.cheapest(0, 1), 4);
        HandBook second = Check.bookOf(HARM_2.replace("step open 0;step open 1;", "step open 1;step open 0;"));
        CHECK.is("two in turn", second.cheapest(0, 0), 2);
        CHECK.is("the first of the two", second.cheapest(0, 1), 0);
        CHECK.is("1 is open: no way", second.cheapest(2, 0), NONE);
    }

    private static void back(HandBook x, int state, int deeds, int first) {
        CHECK.is("back(" + state + ", 0)", x.back(state, 0), deeds);
        CHECK.is("back(" + state + ", 1)", x.back(state, 1), first);
    }

    /** "never through a BAD one (itself, too)"; "NONE: it is GOOD, or there is no way". */
    private static void backFromBadAndGood() {
        HandBook x = Check.bookOf("bad open 0;good shut 1;");
        back(x, 1, NONE, NONE);
        back(x, 3, NONE, NONE);
        back(x, 0, 0, NONE);
        back(x, 12, 0, NONE);
        back(x, 2, 1, 2);
        HandBook all = new HandBook();
        back(all, 0, 0, NONE);
        back(all, 1023, 0, NONE);
        HandBook none = Check.bookOf("good above 1 7;");
        back(none, 0, NONE, NONE);
        back(none, 1023, NONE, NONE);
        HandBook bad = Check.bookOf("bad below 0 1;bad above 0 0;");
        back(bad, 0, NONE, NONE);
        back(bad, 1023, NONE, NONE);
    }

    private static void backNotThroughBad() {
        HandBook x = Check.bookOf("good open 0 and open 1;");
        back(x, 0, 2, 1);
        Check.read(x, "bad open 0 and shut 1;");
        back(x, 0, 2, 2);
        back(x, 1, NONE, NONE);
        Check.read(x, "bad shut 0 and open 1;");
        back(x, 0, NONE, NONE);
        back(x, 3, 0, NONE);
        // A longer way goes round the bad one.
        HandBook round = Check.bookOf("good open 0;bad shut 2 and open 0;");
        back(round, 0, 2, 3);
        back(round, 4, 1, 1);
        HandBook drain = Check.bookOf("flow 0 0 down;good below 0 1;");
        back(drain, 16 * 7 + 1, 7, 0);
        back(drain, 16 * 7, 7, 1);
        back(drain, 16, 1, 1);
        back(drain, 0, 0, NONE);
        Check.read(drain, "bad above 0 2 and below 0 4;");
        back(drain, 16 * 7 + 1, NONE, NONE);
        back(drain, 16 * 2 + 1, 2, 0);
    }

    /** "FIRST DEED: of all ways so short the least first". */
    private static void firstDeeds() {
        HandBook x = Check.bookOf("flow 0 0 up;flow 1 0 up;flow 3 0 up;good above 0 0;");
        back(x, 0, 1, 1);
        back(x, 1, 1, 0);
        back(x, 8, 1, 0);
        x.bar(0, 2, 1);
        back(x, 4, 1, 2);
        x.bar(1, 2, 1);
        back(x, 4, 1, 4);
        x.bar(3, 2, 1);
        back(x, 4, 2, 3);
        HandBook pair = Check.bookOf("good open 1 and open 3;");
        back(pair, 0, 2, 2);
        back(pair, 2, 1, 4);
        back(pair, 8, 1, 2);
        HandBook shuts = Check.bookOf("good shut 0 and shut 1 and shut 2;good shut 3;");
        back(shuts, 15, 4, 1);
        back(shuts, 14, 3, 2);
        back(shuts, 8, 1, 4);
        // A deed that a bar keeps from being done is a tick, too, but 0 is less.
        HandBook tick = Check.bookOf("flow 1 0 up;good above 0 1;");
        tick.bar(0, 1, 1);
        back(tick, 2, 2, 0);
    }

    /** "The first t (1 to 50)"; "NONE: there is none". */
    private static void showsAtItsEnds() {
        HandBook first = Check.bookOf("flow 0 0 up;step open 0;");
        CHECK.is("the first tick", first.shows(0, 0, 0), 1);
        CHECK.is("at 7 nothing shows", first.shows(16 * 7, 0, 0), NONE);
        // Rounds of 8 ticks up, 1 for the valve, and so on: what is skipped shows at a tick of one's choice.
        HandBook late = Check.bookOf("flow 0 0 up;flow 1 0 down;flow 2 1 up;step open 0;step wait above 0 6;step shut 0;"
            + "step open 1;step wait below 0 1;step shut 1;step open 2;step shut 2;step if below 1 3 0;"
            + "step open 0;step shut 0;");
        for (int height = 0; height < 8; height++) {
            // The first round is shorter by the height at first; a 7 is kept by the tick that opens.
            int t = height == 7 ? 49 : 55 - height;
            CHECK.is("height " + height + " at first", late.shows(16 * height, 9, 0), t <= 50 ? t : NONE);
        }
        HandBook still = Check.bookOf("step open 0;step shut 0;step wait open 1;");
        for (int slip = 0; slip < 4; slip++) {
            CHECK.is("nothing flows, slip " + slip, still.shows(0, 1, slip), NONE);
            CHECK.is("at the wait, slip " + slip, still.shows(0, 2, slip), NONE);
        }
    }

    /** "a run that takes fewer TICKS keeps its last HEIGHTS". */
    private static void showsFewerTicks() {
        HandBook fewer = Check.bookOf("flow 0 0 up;step open 0;step wait above 0 2;step end;");
        CHECK.is("the slip ends it ahead", fewer.shows(0, 1, 0), 2);
        CHECK.is("a tick later", fewer.shows(0, 1, 2), 3);
        HandBook more = Check.bookOf("flow 0 0 up;step go 2;step open 0;step wait shut 3;step end;");
        CHECK.is("no tick without the slip", more.run(0, 1), 0);
        CHECK.is("the heights at first are the last", more.shows(0, 2, 3), 1);
        CHECK.is("of whatever height", more.shows(16 * 6, 2, 3), 1);
        CHECK.is("and stay at 7", more.shows(16 * 7, 2, 3), NONE);
        HandBook turns = Check.bookOf("flow 0 0 up;step go 2;step open 0;step wait shut 3;step go 4;step go 3;");
        CHECK.is("a turn without ticks keeps them", turns.shows(16, 2, 3), 1);
        HandBook none = Check.bookOf("flow 0 0 up;step wait shut 3;step end;");
        CHECK.is("no tick in either", none.shows(1, 0, 0), NONE);
        // AWAY at step 15 goes through 14 and 1 to 13 once more: the longest way to a tick there is.
        HandBook longest = Check.bookOf("flow 0 0 up;step go 14;" + "step wait shut 3;".repeat(12)
            + "step go 15;step go 1;step open 0;");
        CHECK.is("the first tick comes late in both", longest.shows(0, 15, 3), NONE);
        CHECK.is("but it comes", longest.shows(0, 15, 0), 1);
    }

    /** "made once, the first time that it comes to that STEP and it can be made". */
    private static void showsOnce() {
        // Skipped at first, when the wait holds, it tells nothing; at height 2 it is not made again.
        HandBook once = Check.bookOf("flow 0 0 up;step wait below 0 2;step open 0;step shut 0;step go 0;");
        CHECK.is("made once", once.shows(0, 0, 0), NONE);
        CHECK.is("at height 2 at once", once.shows(32, 0, 0), 1);
        CHECK.is("SHORT cannot be made till then", once.shows(0, 0, 2), 6);
        CHECK.is("SHORT at once", once.shows(32, 0, 2), 2);
        HandBook never = Check.bookOf("flow 0 0 up;step go 2;step open 0;step end;");
        CHECK.is("never comes to that STEP", never.shows(0, 1, 0), NONE);
        HandBook cannot = Check.bookOf("flow 0 0 up;step open 0;step wait open 0;");
        CHECK.is("never can be made", cannot.shows(0, 1, 2), NONE);
        CHECK.is("ALIKE without a LIKE one", cannot.shows(0, 0, 1), NONE);
        CHECK.is("AWAY at STEP 0", cannot.shows(0, 0, 3), NONE);
        cannot.like(0, 1);
        CHECK.is("ALIKE with one", cannot.shows(0, 0, 1), 1);
        CHECK.is("AWAY at STEP 1: opens once more", cannot.shows(0, 1, 3), 2);
    }

    private static void bars(HandBook x, int state, int fewest, int bits) {
        CHECK.is("fewest(" + state + ", 0)", x.fewest(state, 0), fewest);
        CHECK.is("fewest(" + state + ", 1)", x.fewest(state, 1), bits);
    }

    /** "0 to 2 BARS more (of those that are not there) so that THROUGH with 1 SLIP comes to no BAD STATE". */
    private static void barsMore() {
        bars(new HandBook(), 1023, 0, 0);
        bars(Check.bookOf(HARM_0), 0, NONE, NONE);
        bars(Check.bookOf(HARM_0), 8, NONE, NONE);
        bars(Check.bookOf(HARM_2), 0, 0, 0);
        bars(Check.bookOf(HARM_3), 0, 0, 0);
        HandBook one = Check.bookOf("bad open 0 and open 1;step open 0;step shut 0;step open 1;");
        bars(one, 0, 1, 1 << 4);
        CHECK.is("none came", one.count(5), 0);
        one.bar(3, 2, 1);
        bars(one, 0, 1, 1 << 4);
        one.bar(1, 0, 1);
        bars(one, 0, 0, 0);
        CHECK.is("those there stay", one.count(5), 2);
        // Valve 2 is kept shut by 1, which is open by then, as well as 3 is by 1 or by 2: the bar 2 1 is the least.
        String pairs = "bad open 0 and open 1;bad open 2 and open 3;step open 0;step shut 0;step open 1;step open 2;"
            + "step shut 2;step open 3;";
        HandBook two = Check.bookOf(pairs);
        bars(two, 0, 2, 1 << 4 | 1 << 9);
        HandBook round = Check.bookOf(pairs + "step shut 3;step shut 1;step go 0;");
        bars(round, 0, NONE, NONE);
        round.bar(0, 1, 1);
        bars(round, 0, 2, 1 << 4 | 1 << 9);
        round.bar(1, 0, 1);
        bars(round, 0, 1, 1 << 9);
        round.bar(2, 1, 1);
        bars(round, 0, 0, 0);
        CHECK.is("the three", round.count(5), 3);
    }

    /** "as a set (bits 4 a and b of each BAR), of several the least number". */
    private static void leastSet() {
        // Each of the twelve bars is the only one that helps in a book of its own.
        for (int a = 0; a < 4; a++) {
            for (int b = 0; b < 4; b++) {
                if (a != b) {
                    HandBook x = Check.bookOf("bad open " + a + " and open " + b + ";step open " + b + ";step shut " + b
                        + ";step open " + a + ";");
                    bars(x, 0, 1, 1 << 4 * a + b);
                }
            }
        }
        // Opened one behind the other: a bar of 1, or of 2, by any that is open by then; the least bit is 4.
        HandBook one = Check.bookOf("bad open 0 and open 1 and open 2;step open 0;step open 1;step open 2;");
        bars(one, 0, 1, 1 << 4);
        // The bars 1 0 and 1 2 are 80; the bars 0 2 and 1 3 would help, too, but are 132.
        HandBook two = Check.bookOf("bad open 1 and open 3;bad open 0 and open 1;step open 2;step open 3;step open 0;"
            + "step open 1;");
        bars(two, 0, 2, 80);
        two.bar(0, 2, 1);
        two.bar(1, 3, 1);
        CHECK.is("these help, too", two.through(0, 1, 1), 0);
        HandBook high = Check.bookOf("bad open 2 and open 3;bad open 3 and open 1;step open 0;step open 1;step shut 2;"
            + "step open 2;step open 3;");
        bars(high, 0, 2, 1 << 13 | 1 << 8);
        // A single bar goes ahead of two, though its number is greater.
        HandBook single = Check.bookOf("bad open 3 and open 2;step open 2;step shut 2;step open 3;");
        bars(single, 0, 1, 1 << 14);
    }
}
