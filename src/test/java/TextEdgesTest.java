/**
 * Section 1, texts, and promises 6 to 8 at their edges: the tape's 400 bytes, which bytes make a
 * token, numbers of two figures, rooms, and which token has the fault.
 */
public final class TextEdgesTest {
    private static final int NONE = HandBook.NONE, FULL = HandBook.FULL;
    private static final int MISPLACED = 1, NOT_AS_TOLD = 2, NO_ROOM = 3;
    private static final Check CHECK = new Check();
    private static final String FLOW = "flow 0 0 up;", BAD = "bad open 0;", GOOD = "good open 0;", STEP = "step end;";

    public static void main(String[] args) {
        bytesOfFeed();
        tapeOf400();
        bytesOfTokens();
        blanks();
        figures();
        numbersAsTold();
        rooms();
        roomsAcrossTexts();
        fourthCond();
        firstTokenWithAFault();
        ofOneTokenTheLeast();
        faultAtTheEnd();
        everyCutText();
        latestFault();
        whenAllIsRead();
        CHECK.end("TextEdgesTest");
    }

    private static void fault(String text, int place, int number) {
        faultOf(new HandBook(), text, place, number);
    }

    private static void faultOf(HandBook x, String text, int place, int number) {
        int steps = x.count(1);
        CHECK.is("book() of " + text, Check.read(x, text), -1000100 - place);
        CHECK.is("fault() of " + text, x.fault(), number);
        CHECK.is("steps behind " + text, x.count(1), steps);
        CHECK.is("the tape behind " + text, x.count(6), 0);
    }

    private static void reads(String text, int steps) {
        HandBook x = new HandBook();
        CHECK.is("book() of " + text, Check.read(x, text), steps);
        CHECK.is("fault() of " + text, x.fault(), 0);
    }

    /** "The lowest n bytes of w (1 to 8), the highest of them first". */
    private static void bytesOfFeed() {
        long w = 0x3b3b3b3b3b3b3b3bL;
        String text = "step end";
        for (int n = 1; n <= 8; n++) {
            // The bytes above the lowest n are signs that would be faults.
            long fed = w;
            for (int i = 0; i < n; i++) {
                fed = fed << 8 | text.charAt(i);
            }
            HandBook x = new HandBook();
            CHECK.is("feed of " + n, x.feed(fed, n), n);
            CHECK.is("the rest", Check.feed(x, text.substring(n) + ";"), 9);
            CHECK.is("read, of which " + n + " came at once", x.book(), 1);
        }
        HandBook x = new HandBook();
        CHECK.is("a byte of a negative number", x.feed(-256L + ';', 1), 1);
        CHECK.is("is that byte", x.book(), -1000100);
        CHECK.is("eight bytes, the highest with its sign", x.feed(0xbb20202020202020L, 8), 8);
        CHECK.is("it is the first", x.book(), -1000100);
        CHECK.is("eight bytes, the lowest no token", x.feed(0x20202020202020bbL, 8), 8);
        CHECK.is("it is the last", x.book(), -1000107);
        Check.feed(x, "step");
        CHECK.is("behind the tape", Check.feed(x, " end;"), 9);
        CHECK.is("one text", x.book(), 1);
    }

    /** "THE TAPE has at most 400 bytes"; "FULL: none comes"; "The tape, empty then, is read". */
    private static void tapeOf400() {
        String text = STEP.repeat(3) + " ".repeat(364) + STEP;
        CHECK.is("a text of 400 bytes", text.length(), 400);
        HandBook x = new HandBook();
        CHECK.is("is fed", Check.feed(x, text), 400);
        CHECK.is("a byte more", x.feed(';', 1), FULL);
        CHECK.is("eight more", x.feed(-1, 8), FULL);
        CHECK.is("is read to its end", x.book(), 4);
        CHECK.is("empty then", x.count(6), 0);
        CHECK.is("room for the next", Check.feed(x, text), 400);
        CHECK.is("which is read, too", x.book(), 8);
        fault(" ".repeat(399) + ";", 399, MISPLACED);
        fault(" ".repeat(396) + "step", 400, MISPLACED);
        fault(" ".repeat(395) + "step;", 399, MISPLACED);
        fault(" ".repeat(392) + "step end", 400, MISPLACED);
        fault("a".repeat(400), 0, MISPLACED);
        fault(" ".repeat(398) + "st", 398, MISPLACED);
        fault(" ".repeat(394) + "step e", 399, MISPLACED);
        fault("1".repeat(400), 0, MISPLACED);
        for (int left = 1; left < 8; left++) {
            HandBook y = new HandBook();
            Check.feed(y, " ".repeat(400 - left));
            CHECK.is("one more than is left, " + left, y.feed(-1, left + 1), FULL);
            CHECK.is("none came", y.count(6), 400 - left);
            CHECK.is("as many as are left, " + left, y.feed(0x2020202020202020L, left), 400);
            CHECK.is("blanks alone, of which none was refused", y.book(), 0);
        }
        // What the tape held before is no part of a shorter text.
        HandBook shorter = Check.bookOf(STEP);
        faultOf(shorter, "ste", 0, MISPLACED);
        Check.read(shorter, STEP);
        faultOf(shorter, "step en", 5, MISPLACED);
        Check.read(shorter, "step go 15;");
        CHECK.is("a number is as short as it is", Check.read(shorter, "step go 1"), -1000109);
        HandBook empty = new HandBook();
        CHECK.is("the empty tape", empty.book(), 0);
        CHECK.is("has no fault", empty.fault(), 0);
        Check.read(empty, STEP + STEP);
        CHECK.is("the empty tape behind a text", empty.book(), 2);
        Check.read(empty, "x");
        CHECK.is("the empty tape behind a fault", empty.book(), 2);
        CHECK.is("leaves the fault", empty.fault(), 1);
    }

    /** NAMES of a to z, NUMBERS of figures, the SIGN ; and bytes 32 and 10: every byte, at five places. */
    private static void bytesOfTokens() {
        for (int b = 0; b < 256; b++) {
            String sign = String.valueOf((char) b);
            boolean letter = b >= 'a' && b <= 'z';
            if (b == 32 || b == 10) {
                reads(sign + STEP, 1);
                reads("step end" + sign + ";", 1);
                reads("step" + sign + "go" + sign + "1;" + sign, 1);
                continue;
            }
            fault(sign + STEP, 0, MISPLACED);
            fault("step" + sign + "end;", letter ? 0 : 4, MISPLACED);
            fault(STEP + sign, 9, MISPLACED);
            // A second sign is one too many behind the first.
            fault("step end " + sign + ";", b == ';' ? 10 : 9, MISPLACED);
            byteBehindNumber(sign);
        }
    }

    private static void byteBehindNumber(String sign) {
        String text = "step go 1" + sign + ";";
        if ("012345".contains(sign)) {
            reads(text, 1);
        } else if ("6789".contains(sign)) {
            fault(text, 8, NOT_AS_TOLD);
        } else {
            fault(text, sign.equals(";") ? 10 : 9, MISPLACED);
        }
    }

    /** "bytes 32 and 10 between": as many as one likes, and none where two tokens part by themselves. */
    private static void blanks() {
        reads("  \n\n step \n end \n ; \n", 1);
        reads("step\nend\n;", 1);
        reads(STEP + STEP, 2);
        reads("flow0 0up;flow 1 1down;", 0);
        reads("flow0 0up;bad above0 7and below1 0;step if open3 15;step go15;", 2);
        fault("flow00up;", 6, MISPLACED);
        fault("stepend;", 0, MISPLACED);
        fault("step go1 5;", 9, MISPLACED);
        fault("step\tend;", 4, MISPLACED);
        fault("step\rend;", 4, MISPLACED);
        fault("step\u00a0end;", 4, MISPLACED);
    }

    /** "NUMBERS (figures, 2 at most)". */
    private static void figures() {
        reads("step go 0;step go 00;step go 7;step go 07;step go 15;", 5);
        HandBook x = Check.bookOf("step go 00;step go 09;step go 10;");
        CHECK.is("go 00", x.on(0, 5), 5);
        CHECK.is("go 09", x.on(1, 5), 9 * 1024 + 5);
        CHECK.is("go 10", x.on(2, 5), 10 * 1024 + 5);
        fault("step go 000;", 8, MISPLACED);
        fault("step go 007;", 8, MISPLACED);
        fault("step go 015;", 8, MISPLACED);
        fault("step go 999;", 8, MISPLACED);
        fault("step go 4294967296;", 8, MISPLACED);
        fault("flow 000 0 up;", 5, MISPLACED);
        fault("flow 0 001 up;", 7, MISPLACED);
        fault("bad above 0 007;", 12, MISPLACED);
        reads("flow 03 01 up;bad above 01 07;", 0);
    }

    /** "2 a NUMBER that is not as told", one beyond each of its ends, at each place of the grammar. */
    private static void numbersAsTold() {
        String[] ahead = {"flow ", "bad open ", "bad shut ", "good open ", "good shut ", "step open ", "step shut ",
            "step wait open ", "step wait shut ", "step if open ", "step if shut "};
        for (String head : ahead) {
            number(head, 3, head.startsWith("flow") ? " 0 up;" : head.startsWith("step if") ? " 0;" : ";");
        }
        String[] conds = {"bad ", "good ", "step wait ", "step if ", "bad open 0 and ", "good shut 0 and open 1 and "};
        for (String head : conds) {
            String tail = head.equals("step if ") ? " 0;" : ";";
            number(head + "above ", 1, " 0" + tail);
            number(head + "below ", 1, " 0" + tail);
            number(head + "above 0 ", 7, tail);
            number(head + "below 1 ", 7, tail);
        }
        number("flow 0 ", 1, " up;");
        number("flow 3 ", 1, " down;");
        number("step if open 0 ", 15, ";");
        number("step if below 1 7 ", 15, ";");
        number("step go ", 15, ";");
    }

    private static void number(String head, int most, String tail) {
        int steps = head.startsWith("step") ? 1 : 0;
        reads(head + "0" + tail, steps);
        reads(head + most + tail, steps);
        fault(head + (most + 1) + tail, head.length(), NOT_AS_TOLD);
        fault(head + "99" + tail, head.length(), NOT_AS_TOLD);
        fault(head + "100" + tail, head.length(), MISPLACED);
        fault(head + "-1" + tail, head.length(), MISPLACED);
        fault(head + "up" + tail, head.length(), MISPLACED);
        fault(head + ";", head.length(), MISPLACED);
        fault(head, head.length(), MISPLACED);
    }

    /** "FLOWS (8 at most), BAD and GOOD lines (4 each at most, 3 conds each), STEPS 0 .. 15 (16 at most)". */
    private static void rooms() {
        String[] lines = {FLOW, BAD, GOOD, STEP};
        int[] most = {8, 4, 4, 16};
        int[] counts = {2, 3, 4, 1};
        for (int i = 0; i < lines.length; i++) {
            HandBook x = new HandBook();
            CHECK.is("as many as there is room for", Check.read(x, lines[i].repeat(most[i])), i == 3 ? 16 : 0);
            CHECK.is("are there", x.count(counts[i]), most[i]);
            faultOf(x, lines[i], 0, NO_ROOM);
            CHECK.is("none came", x.count(counts[i]), most[i]);
            String all = lines[i].repeat(most[i] + 1);
            fault(all, lines[i].length() * most[i], NO_ROOM);
            // Its first word has the fault: what stands behind it is not looked at.
            String word = lines[i].substring(0, lines[i].indexOf(' '));
            fault(lines[i].repeat(most[i]) + " " + word, lines[i].length() * most[i] + 1, NO_ROOM);
            fault(lines[i].repeat(most[i]) + word + " 99;", lines[i].length() * most[i], NO_ROOM);
            fault(lines[i].repeat(most[i]) + word + "x", lines[i].length() * most[i], MISPLACED);
            // The other rooms are not used up by it.
            for (int k = 0; k < lines.length; k++) {
                if (k != i) {
                    CHECK.holds("room for the others", Check.read(x, lines[k].repeat(most[k])) >= 0);
                    CHECK.is("they came", x.count(counts[k]), most[k]);
                }
            }
        }
        reads("bad open 0 and open 1 and open 2;good open 0 and open 1 and open 2;", 0);
    }

    private static void roomsAcrossTexts() {
        HandBook x = new HandBook();
        for (int i = 1; i <= 16; i++) {
            CHECK.is("a step in a text of its own", Check.read(x, STEP), i);
            CHECK.is("a flow", Check.read(x, i <= 8 ? FLOW : ""), i);
            CHECK.is("a bad and a good line", Check.read(x, i <= 4 ? BAD + GOOD : ""), i);
        }
        faultOf(x, STEP, 0, NO_ROOM);
        faultOf(x, FLOW, 0, NO_ROOM);
        faultOf(x, BAD, 0, NO_ROOM);
        faultOf(x, GOOD, 0, NO_ROOM);
        HandBook y = Check.bookOf(STEP.repeat(15) + FLOW.repeat(7) + BAD.repeat(3));
        faultOf(y, STEP + STEP, 9, NO_ROOM);
        faultOf(y, FLOW + FLOW, 12, NO_ROOM);
        faultOf(y, BAD + BAD, 11, NO_ROOM);
        // What a refused text would have brought takes no room.
        CHECK.is("the last of each", Check.read(y, STEP + FLOW + BAD), 16);
        CHECK.is("flows", y.count(2), 8);
        CHECK.is("bad lines", y.count(3), 4);
    }

    /** "the 4th cond of a line (its first word)". */
    private static void fourthCond() {
        String[] heads = {"bad ", "good "};
        for (String head : heads) {
            String three = head + "open 0 and above 0 1 and below 1 2";
            int place = three.length() + 5;
            reads(three + ";", 0);
            fault(three + " and open 1;", place, NO_ROOM);
            fault(three + " and shut 1;", place, NO_ROOM);
            fault(three + " and above 1 1;", place, NO_ROOM);
            fault(three + " and below 1 1;", place, NO_ROOM);
            fault(three + " and open", place, NO_ROOM);
            fault(three + " and open 9;", place, NO_ROOM);
            fault(three + " and;", place - 1, MISPLACED);
            fault(three + " and", place - 1, MISPLACED);
            fault(three + " and wait;", place, MISPLACED);
            fault(three + " and 3;", place, MISPLACED);
            fault(three + " and and;", place, MISPLACED);
            fault(three + " open 1;", place - 4, MISPLACED);
        }
        // Each line has its own three.
        reads("bad open 0 and open 1 and open 2;".repeat(4) + "good open 0 and open 1 and open 2;".repeat(4), 0);
    }

    /** "the first TOKEN that has one (its first byte)". */
    private static void firstTokenWithAFault() {
        fault("step open 4;step go 16;x", 10, NOT_AS_TOLD);
        fault("step open 3;step go 16;x", 20, NOT_AS_TOLD);
        fault("step open 3;step go 15;x", 23, MISPLACED);
        fault("flow 4 2 over", 5, NOT_AS_TOLD);
        fault("flow 3 2 over", 7, NOT_AS_TOLD);
        fault("flow 3 1 over", 9, MISPLACED);
        fault("flow 3 1 up 99", 12, MISPLACED);
        fault("bad above 2 8;", 10, NOT_AS_TOLD);
        fault("step if above 1 8 16;", 16, NOT_AS_TOLD);
        fault("step if above 1 7 16;", 18, NOT_AS_TOLD);
        fault(BAD.repeat(4) + "bad open 9;", 44, NO_ROOM);
        fault("bad open 9;" + BAD.repeat(5), 9, NOT_AS_TOLD);
        fault("\n\n   stepp end;", 5, MISPLACED);
        fault("step   endless;", 7, MISPLACED);
        fault("step go      16;", 13, NOT_AS_TOLD);
    }

    /** "of one TOKEN the least": what cannot stand there is 1, whatever else may be said of it. */
    private static void ofOneTokenTheLeast() {
        fault("99", 0, MISPLACED);
        fault("step 99;", 5, MISPLACED);
        fault("step go 15 99;", 11, MISPLACED);
        fault("bad open 0 99;", 11, MISPLACED);
        fault("step go 123;", 8, MISPLACED);
        fault("flow 444 0 up;", 5, MISPLACED);
        HandBook x = Check.bookOf(FLOW.repeat(8) + BAD.repeat(4) + GOOD.repeat(4) + STEP.repeat(16));
        faultOf(x, "flow", 0, NO_ROOM);
        faultOf(x, "flo", 0, MISPLACED);
        faultOf(x, "open 0;", 0, MISPLACED);
        HandBook flows = Check.bookOf(FLOW.repeat(8) + STEP);
        faultOf(flows, "step flow 0 0 up;", 5, MISPLACED);
        faultOf(flows, "bad open 0 flow 0 0 up;", 11, MISPLACED);
        HandBook steps = Check.bookOf(STEP.repeat(16));
        faultOf(steps, "bad step end;", 4, MISPLACED);
        faultOf(steps, "flow 0 0 up step end;", 12, MISPLACED);
        fault("bad open 0 and open 1 and open 2 and open 3;", 37, NO_ROOM);
        fault("step wait open 0 and open 1;", 17, MISPLACED);
        fault("step if open 0 and open 1 3;", 15, MISPLACED);
    }

    /** "(the end: how many bytes there are)". */
    private static void faultAtTheEnd() {
        fault("s", 0, MISPLACED);
        fault("step", 4, MISPLACED);
        fault("step ", 5, MISPLACED);
        fault("step\n\n\n", 7, MISPLACED);
        fault("step end", 8, MISPLACED);
        fault("step end  ", 10, MISPLACED);
        fault("step end; step end", 18, MISPLACED);
        fault("bad open 0 and", 14, MISPLACED);
        fault("bad open 0 and open 1 and open 2", 32, MISPLACED);
        fault("bad open 0 and open 1 and open 2 and ", 37, MISPLACED);
        reads("", 0);
        reads(" ", 0);
        reads("\n", 0);
        reads("step end;  ", 1);
    }

    /** A text that is cut off has its fault at the end, unless a line or a word is cut. */
    private static void everyCutText() {
        String[] lines = {"flow 3 1 down;", "bad open 3 and shut 2 and above 1 7;", "good below 0 0;", "step open 3;",
            "step shut 0;", "step wait below 1 3;", "step if above 0 2 15;", "step go 9;", "step end;"};
        for (String line : lines) {
            for (int n = 1; n < line.length(); n++) {
                boolean inWord = Character.isLetter(line.charAt(n - 1)) && Character.isLetter(line.charAt(n));
                int start = n;
                while (inWord && start > 0 && Character.isLetter(line.charAt(start - 1))) {
                    start--;
                }
                fault(line.substring(0, n), inWord ? start : n, MISPLACED);
            }
            reads(line, line.startsWith("step") ? 1 : 0);
            fault(line + ";", line.length(), MISPLACED);
        }
    }

    /** "The number of the latest FAULT; 0 before one." */
    private static void latestFault() {
        HandBook x = new HandBook();
        CHECK.is("fault() before one", x.fault(), 0);
        Check.read(x, STEP);
        CHECK.is("fault() behind a text without one", x.fault(), 0);
        Check.read(x, "bad open 4;");
        CHECK.is("the first", x.fault(), 2);
        CHECK.is("asked again", x.fault(), 2);
        Check.read(x, STEP.repeat(16));
        CHECK.is("the next", x.fault(), 3);
        Check.read(x, STEP);
        CHECK.is("a text without one leaves it", x.fault(), 3);
        x.feed(-1, 9);
        x.tick(-1);
        x.set(0, 0, 0);
        CHECK.is("refusals and findings are no faults", x.fault(), 3);
        Check.read(x, ";");
        CHECK.is("the latest", x.fault(), 1);
    }

    /** "numbered as they come; they come behind those there are, when all is read"; "nothing comes". */
    private static void whenAllIsRead() {
        HandBook x = Check.bookOf("step open 1;step go 15;");
        CHECK.is("step 0", x.kind(0), 2);
        CHECK.is("step 1", x.kind(1), 4);
        CHECK.is("a STEP there or not", x.on(1, 3), 15 * 1024 + 3);
        faultOf(x, "flow 1 0 up;bad open 1;good open 2;step shut 1;step end;step", 60, MISPLACED);
        CHECK.is("no step came", x.kind(2), HandBook.BAD);
        CHECK.is("no flow", x.tick(2), 2);
        CHECK.is("no bad line", x.judge(2, 0), 0);
        CHECK.is("no good line", x.judge(0, 1), 1);
        CHECK.is("steps", Check.read(x, "step wait open 0;flow 1 0 up;step end;"), 4);
        CHECK.is("step 2", x.kind(2), 3);
        CHECK.is("step 3", x.kind(3), 5);
        CHECK.is("the flow", x.tick(2), 18);
        CHECK.is("step 0 is as it was", x.on(0, 0), 1024 + 18);
        CHECK.is("step 4 is not there", x.on(4, 0), NONE);
        Check.read(x, "bad open 1 and open 2;");
        Check.read(x, "bad open 3;good above 0 0;");
        CHECK.is("the first bad line", x.judge(6, 0), 1);
        CHECK.is("the second", x.judge(8, 0), 1);
        CHECK.is("neither", x.judge(2, 0), 0);
        CHECK.is("the good line", x.judge(18, 1), 1);
        CHECK.is("not good", x.judge(2, 1), 0);
    }
}
