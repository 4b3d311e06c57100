/** Promises 6 to 8: the tape, texts and their faults. */
public final class BooksTest {
    private static final int BAD = HandBook.BAD, FULL = HandBook.FULL;
    private static final Check CHECK = new Check();

    public static void main(String[] args) {
        feeding();
        reading();
        faults();
        rooms();
        faultsChangeNothing();
        CHECK.end("BooksTest");
    }

    private static void feeding() {
        HandBook x = new HandBook();
        CHECK.is("feed(0, 0)", x.feed(0, 0), BAD);
        CHECK.is("feed(0, 9)", x.feed(0, 9), BAD);
        CHECK.is("feed(0, -1)", x.feed(0, -1), BAD);
        CHECK.is("count(6)", x.count(6), 0);
        // The highest first: 's' 't' 'e' 'p' of the lowest four bytes.
        CHECK.is("feed of 4", x.feed(0x7878787873746570L, 4), 4);
        CHECK.is("feed of 5", x.feed(0x20656e643bL, 5), 9);
        CHECK.is("count(6) then", x.count(6), 9);
        CHECK.is("book()", x.book(), 1);
        CHECK.is("empty then", x.count(6), 0);
        CHECK.is("eight bytes with the sign bit set", x.feed(-1, 8), 8);
        CHECK.is("none is a token", x.book(), -1000100);
        CHECK.is("fault()", x.fault(), 1);
        fullTape();
    }

    private static void fullTape() {
        HandBook x = new HandBook();
        for (int i = 1; i <= 49; i++) {
            CHECK.is("feed of 8 blanks", x.feed(0x2020202020202020L, 8), 8 * i);
        }
        x.feed(0x2020202020L, 5);
        CHECK.is("397 bytes and 4", x.feed(0x20202020L, 4), FULL);
        CHECK.is("none came", x.count(6), 397);
        CHECK.is("BAD ahead of FULL", x.feed(0, 9), BAD);
        CHECK.is("397 bytes and 3", x.feed(0x202020L, 3), 400);
        CHECK.is("400 bytes and 1", x.feed(0x20, 1), FULL);
        CHECK.is("blanks alone", x.book(), 0);
        CHECK.is("room again", x.feed(0x20, 1), 1);
    }

    private static void reading() {
        HandBook x = new HandBook();
        CHECK.is("an empty tape", x.book(), 0);
        CHECK.is("fault() before one", x.fault(), 0);
        CHECK.is("a step", Check.read(x, "step open 3;"), 1);
        CHECK.is("behind those there are", Check.read(x, "step end;step go 15;step if above 1 7 0;"), 4);
        CHECK.is("no blanks where none are needed", Check.read(x, "step shut1;step wait below1 0;"), 6);
        CHECK.is("blanks and newlines", Check.read(x, "\n\n step\n  go\n 07 \n;\n "), 7);
        CHECK.is("other lines add no step", Check.read(x, "flow 3 1 down;bad shut 3 and above 0 0 and open 1;good below 1 7;"), 7);
        CHECK.is("flows", x.count(2), 1);
        CHECK.is("bad lines", x.count(3), 1);
        CHECK.is("good lines", x.count(4), 1);
        CHECK.is("go 07", x.on(6, 3), 7 * 1024 + 3);
        CHECK.is("shut1", x.on(4, 2), 5 * 1024);
        CHECK.is("fault() after none", x.fault(), 0);
    }

    private static void fault(String text, int place, int number) {
        HandBook x = new HandBook();
        CHECK.is("book() of " + text, Check.read(x, text), -1000100 - place);
        CHECK.is("fault() of " + text, x.fault(), number);
        CHECK.is("tape behind " + text, x.count(6), 0);
    }

    private static void faults() {
        fault("x", 0, 1);
        fault(";", 0, 1);
        fault("0", 0, 1);
        fault("  flo 0 0 up;", 2, 1);
        fault("flow", 4, 1);
        fault("flow  ", 6, 1);
        fault("flow up", 5, 1);
        fault("flow 4 0 up;", 5, 2);
        fault("flow 3 2 up;", 7, 2);
        fault("flow 3 1 over;", 9, 1);
        fault("flow 3 1 up", 11, 1);
        fault("flow 3 1 up up;", 12, 1);
        fault("flow 3 1;", 8, 1);
        fault("bad;", 3, 1);
        fault("good and open 1;", 5, 1);
        fault("good open 1 open 2;", 12, 1);
        fault("good open 1 and;", 15, 1);
        fault("good above 2 0;", 11, 2);
        fault("good above 1 8;", 13, 2);
        fault("good below 1;", 12, 1);
        fault("bad shut 4;", 9, 2);
        fault("bad open 0 and open 1 and open 2 and open 3;", 37, 3);
        fault("bad open 0 and open 1 and open 2 and 3;", 37, 1);
        fault("bad open 0 and open 1 and open 2 and", 36, 1);
        fault("bad open 0 and open 1 and open 2 and above 9 9;", 37, 3);
        fault("step;", 4, 1);
        fault("step above 0 0;", 5, 1);
        fault("step open 4;", 10, 2);
        fault("step shut 99;", 10, 2);
        fault("step open 100;", 10, 1);
        fault("step open x;", 10, 1);
        fault("step wait open;", 14, 1);
        fault("step wait end;", 10, 1);
        fault("step if open 1;", 14, 1);
        fault("step if open 1 16;", 15, 2);
        fault("step go 16;", 8, 2);
        fault("step go 000;", 8, 1);
        fault("step end end;", 9, 1);
        fault("step end", 8, 1);
        fault("stepend;", 0, 1);
        fault("step endX;", 8, 1);
        fault("step endz;", 5, 1);
        fault("step enda;", 5, 1);
        fault(";".repeat(400), 0, 1);
        fault("flow" + " ".repeat(396), 400, 1);
        fault("Step end;", 0, 1);
        fault("step\tend;", 4, 1);
        fault("step\rend;", 4, 1);
        fault("step go -1;", 8, 1);
        fault("step go 1 6;", 10, 1);
        fault("step end;\u00e9", 9, 1);
        fault("step end; step go 16; step open 9;", 18, 2);
        fault("stepstepstepstepstepstep end;", 0, 1);
    }

    private static String times(int n, String line) {
        return line.repeat(n);
    }

    private static void rooms() {
        fault(times(9, "flow 0 0 up;"), 96, 3);
        fault(times(5, "bad open 0;"), 44, 3);
        fault(times(5, "good open 0;"), 48, 3);
        fault(times(17, "step end;"), 144, 3);
        // The word alone has the fault, whatever stands behind it.
        fault(times(16, "step end;") + "step", 144, 3);
        // An earlier token's fault comes first.
        fault("flow 4 0 up;" + times(9, "flow 0 0 up;"), 5, 2);
        HandBook x = new HandBook();
        CHECK.is("16 steps", Check.read(x, times(16, "step end;")), 16);
        CHECK.is("one more, behind those there are", Check.read(x, " step end;"), -1000101);
        CHECK.is("no room", x.fault(), 3);
        CHECK.is("8 flows", Check.read(x, times(8, "flow 0 0 up;")), 16);
        CHECK.is("one more", Check.read(x, "bad open 0;flow 0 0 up;"), -1000111);
        CHECK.is("4 bad and good lines", Check.read(x, times(4, "bad open 0;good open 1;")), 16);
        CHECK.is("a bad line more", Check.read(x, "bad open 0;"), -1000100);
        CHECK.is("a good line more", Check.read(x, "good open 0;"), -1000100);
        CHECK.is("flows there", x.count(2), 8);
        CHECK.is("bad lines there", x.count(3), 4);
        CHECK.is("good lines there", x.count(4), 4);
    }

    private static void faultsChangeNothing() {
        HandBook x = new HandBook();
        Check.read(x, "flow 0 0 up;step open 0;");
        CHECK.is("a fault behind much", Check.read(x, "flow 0 0 up;bad open 0;good open 1;step shut 0;step go 99;"),
            -1000100 - 55);
        CHECK.is("fault()", x.fault(), 2);
        CHECK.is("steps", x.count(1), 1);
        CHECK.is("flows", x.count(2), 1);
        CHECK.is("bad lines", x.count(3), 0);
        CHECK.is("good lines", x.count(4), 0);
        CHECK.is("the old flow alone", x.tick(1), 17);
        CHECK.is("no bad", x.judge(1, 0), 0);
        CHECK.is("still good", x.judge(0, 1), 1);
        CHECK.is("step 1 is not there", x.on(1, 0), HandBook.NONE);
        CHECK.is("a text without fault", Check.read(x, "step shut 1;"), 2);
        CHECK.is("no good line came with it", x.count(4), 0);
        CHECK.is("no bad line came with it", x.count(3), 0);
        CHECK.is("no flow came with it", x.count(2), 1);
        CHECK.is("is read in the room of the one before", x.on(1, 3), 2 * 1024 + 17);
        CHECK.is("the latest fault stays", x.fault(), 2);
    }
}
