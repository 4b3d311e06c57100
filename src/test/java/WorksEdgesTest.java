/**
 * Section 1, sheets and works, at their edges, with promises 2 to 5 and 9 to 14: items, lanes, what a
 * copy leaves, the parts of a state, heights that stop at 0 and 7, bad and good lines, bars.
 */
public final class WorksEdgesTest {
    private static final int NONE = HandBook.NONE, BAD = HandBook.BAD;
    private static final Check CHECK = new Check();
    private static final String VALVES = "bad open 0;bad open 1;bad open 2;bad open 3;";
    private static final String HEIGHTS = "bad above 0 0;bad above 1 0;";

    public static void main(String[] args) {
        itemsAtFirst();
        lowestBits();
        copiesAsTheyWere();
        partsOfAState();
        heightsAtTheirEnds();
        flowsAreAdded();
        badLines();
        goodLines();
        barsHold();
        barsOfDeedsBack();
        likes();
        days();
        CHECK.end("WorksEdgesTest");
    }

    /** "SHEETS 0 .. 7 are missing (at first)"; "0 to 40 ITEMS, 0 at first". */
    private static void itemsAtFirst() {
        for (String lines : new String[] {VALVES, HEIGHTS}) {
            for (int lane = 0; lane < 3; lane++) {
                HandBook x = Check.bookOf(lines);
                x.sheet(0, lane, 40);
                CHECK.is("20 items at first", x.days(0, 0, 20), 0);
                CHECK.is("20 more", x.days(0, 20, 20), 0);
                for (int i = 0; i < 40; i++) {
                    x.set(0, i, 127);
                }
                CHECK.is("all are bad", x.days(0, 0, 20) + x.days(0, 20, 20), 40);
                CHECK.is("a sheet in place of it", x.sheet(0, lane, 40), 40);
                CHECK.is("is of items 0", x.days(0, 0, 20), 0);
                CHECK.is("all of them", x.days(0, 20, 20), 0);
                x.set(0, 0, 127);
                x.set(0, 39, 127);
                CHECK.is("a smaller one", x.sheet(0, lane, 1), 1);
                CHECK.is("and a greater one behind it", x.sheet(0, lane, 40), 40);
                CHECK.is("the first is 0", x.days(0, 0, 20), 0);
                CHECK.is("the last is 0", x.days(0, 20, 20), 0);
                x.set(0, 39, 127);
                x.drop(0);
                CHECK.is("laid anew behind a drop", x.sheet(0, lane, 40), 40);
                CHECK.is("nothing is left", x.days(0, 20, 20), 0);
            }
        }
        HandBook x = new HandBook();
        for (int n = 1; n <= 8; n++) {
            x.sheet(n - 1, 0, 0);
            CHECK.is("sheets there", x.count(0), n);
        }
        CHECK.is("a sheet of no items is there", x.drop(3), 0);
        CHECK.is("then it is missing", x.drop(3), -1000011);
        CHECK.is("sheets then", x.count(0), 7);
    }

    /** "ITEM i becomes v, its lowest bits, as many as the LANE has: what it is then." */
    private static void lowestBits() {
        int[] values = {0, 1, 127, 128, 129, 255, 256, 32767, 32768, 65535, 65536, Integer.MAX_VALUE,
            -1, -128, -129, -256, -32768, -32769, -65536, Integer.MIN_VALUE};
        int[] bytes = {0, 1, 127, -128, -127, -1, 0, -1, 0, -1, 0, -1, -1, -128, 127, 0, 0, -1, 0, 0};
        int[] shorts = {0, 1, 127, 128, 129, 255, 256, 32767, -32768, -1, 0, -1,
            -1, -128, -129, -256, -32768, 32767, 0, 0};
        HandBook x = new HandBook();
        for (int lane = 0; lane < 3; lane++) {
            x.sheet(lane, lane, 40);
        }
        for (int i = 0; i < values.length; i++) {
            CHECK.is("byte of " + values[i], x.set(0, i, values[i]), bytes[i]);
            CHECK.is("short of " + values[i], x.set(1, i, values[i]), shorts[i]);
            CHECK.is("int of " + values[i], x.set(2, i, values[i]), values[i]);
        }
        // The item itself is cut, not only the answer: 256 of a byte is the state 0, of a short it is 256.
        Check.read(x, "bad above 1 1;");
        CHECK.is("256 of a byte", x.days(0, 6, 1), 0);
        CHECK.is("256 of a short", x.days(1, 6, 1), 1);
        CHECK.is("65536 of a short", x.days(1, 10, 1), 0);
        CHECK.is("65536 of an int", x.days(2, 10, 1), BAD);
        CHECK.is("255 of a byte is no state", x.days(0, 5, 1), BAD);
        CHECK.is("255 of a short is one", x.days(1, 5, 1), 0);
    }

    /** "n ITEMS of a from i on come to b from j on, as they were ahead". */
    private static void copiesAsTheyWere() {
        for (int i = 0; i <= 10; i++) {
            for (int j = 0; j <= 10; j++) {
                for (int n : new int[] {0, 1, 10 - Math.max(i, j)}) {
                    if (i + n <= 10 && j + n <= 10) {
                        copyWithin(i, j, n);
                    }
                }
            }
        }
        HandBook x = Check.bookOf("bad open 0;");
        for (int sheet = 0; sheet < 3; sheet++) {
            x.sheet(sheet, 2, 3);
        }
        x.set(0, 0, 1);
        x.set(0, 1, 1);
        CHECK.is("a copy to another sheet", x.copy(0, 0, 1, 1, 2), 2);
        CHECK.is("from j on", x.days(1, 1, 2), 2);
        CHECK.is("not ahead of j", x.days(1, 0, 1), 0);
        CHECK.is("nor elsewhere", x.days(2, 0, 3), 0);
        x.set(0, 0, 0);
        CHECK.is("a copy is its own", x.days(1, 1, 1), 1);
        CHECK.is("copy of none", x.copy(0, 1, 2, 0, 0), 0);
        CHECK.is("brings none", x.days(2, 0, 3), 0);
        CHECK.is("none at both ends", x.copy(0, 3, 1, 3, 0), 0);
    }

    private static void copyWithin(int i, int j, int n) {
        HandBook x = Check.bookOf("bad open 0;");
        int[] due = {1, 0, 0, 1, 1, 0, 1, 0, 0, 1};
        x.sheet(4, 1, 10);
        for (int k = 0; k < 10; k++) {
            x.set(4, k, due[k]);
        }
        int[] ahead = due.clone();
        for (int k = 0; k < n; k++) {
            due[j + k] = ahead[i + k];
        }
        CHECK.is("copy within, " + i + " to " + j, x.copy(4, i, 4, j, n), n);
        for (int k = 0; k < 10; k++) {
            CHECK.is("item " + k + " behind copy " + i + " to " + j + " of " + n, x.days(4, k, 1), due[k]);
        }
    }

    /** "VALVES 0 .. 3 that are open (bits 0 to 3), 16 times HEIGHT 0, 128 times HEIGHT 1 (0 to 7 each)". */
    private static void partsOfAState() {
        for (int valve = 0; valve < 4; valve++) {
            HandBook open = Check.bookOf("bad open " + valve + ";");
            HandBook shut = Check.bookOf("bad shut " + valve + ";");
            for (int state : new int[] {0, 1, 2, 4, 8, 7, 11, 13, 14, 15, 16, 128, 1008, 1023, 1023 - (1 << valve)}) {
                boolean is = (state & 1 << valve) != 0;
                CHECK.is("open " + valve + " in " + state, open.judge(state, 0), is ? 1 : 0);
                CHECK.is("shut " + valve + " in " + state, shut.judge(state, 0), is ? 0 : 1);
            }
        }
        for (int height = 0; height < 2; height++) {
            int unit = height == 0 ? 16 : 128;
            int rest = 1023 - 7 * unit;
            for (int level = 0; level < 8; level++) {
                HandBook above = Check.bookOf("bad above " + height + " " + level + ";");
                HandBook below = Check.bookOf("bad below " + height + " " + level + ";");
                for (int v = 0; v < 8; v++) {
                    CHECK.is("above " + level, above.judge(v * unit, 0), v > level ? 1 : 0);
                    CHECK.is("above " + level + ", all else set", above.judge(v * unit + rest, 0), v > level ? 1 : 0);
                    CHECK.is("below " + level, below.judge(v * unit, 0), v < level ? 1 : 0);
                    CHECK.is("below " + level + ", all else set", below.judge(v * unit + rest, 0), v < level ? 1 : 0);
                }
            }
        }
    }

    /** "then is 0 at least, 7 at most". */
    private static void heightsAtTheirEnds() {
        for (int flows = 1; flows <= 8; flows++) {
            for (int height = 0; height < 2; height++) {
                int unit = height == 0 ? 16 : 128;
                int rest = 7 * (144 - unit);
                HandBook up = Check.bookOf(("flow 2 " + height + " up;").repeat(flows));
                HandBook down = Check.bookOf(("flow 2 " + height + " down;").repeat(flows));
                for (int v = 0; v < 8; v++) {
                    int state = 4 + v * unit;
                    CHECK.is(flows + " up from " + v, up.tick(state), 4 + Math.min(7, v + flows) * unit);
                    CHECK.is(flows + " down from " + v, down.tick(state), 4 + Math.max(0, v - flows) * unit);
                    CHECK.is("the other height stays at 7", up.tick(state + rest),
                        4 + rest + Math.min(7, v + flows) * unit);
                    CHECK.is("shut, nothing flows", up.tick(11 + v * unit), 11 + v * unit);
                }
            }
        }
    }

    /** "changes by all FLOWS of VALVES that are open (.. added), then": the ends come once, behind all. */
    private static void flowsAreAdded() {
        HandBook x = Check.bookOf("flow 0 0 up;flow 1 0 up;flow 2 0 down;flow 3 0 down;flow 3 0 down;"
            + "flow 3 1 up;flow 0 1 down;flow 1 1 down;");
        CHECK.is("up, up, down at 7", x.tick(7 + 16 * 7), 7 + 16 * 7);
        CHECK.is("up, up, down at 6", x.tick(7 + 16 * 6), 7 + 16 * 7);
        CHECK.is("up, down, down, down at 7", x.tick(13 + 16 * 7), 13 + 16 * 5);
        CHECK.is("up, down, down, down at 1", x.tick(13 + 16), 13);
        CHECK.is("up, down, down, down at 0", x.tick(13), 13);
        CHECK.is("up, up, down, down, down at 0", x.tick(15), 15);
        CHECK.is("up, up, down, down, down at 1", x.tick(15 + 16), 15);
        CHECK.is("up, up, down, down, down at 7", x.tick(15 + 16 * 7), 15 + 16 * 6);
        CHECK.is("height 1: up, down, down at 7", x.tick(11 + 128 * 7 + 16), 11 + 128 * 6 + 16);
        CHECK.is("height 1: up, down, down at 0", x.tick(11 + 16), 11 + 16);
        CHECK.is("valves stay", x.tick(1023), 15 + 16 * 6 + 128 * 6);
        HandBook same = Check.bookOf("flow 0 0 up;flow 0 0 down;");
        CHECK.is("up and down of one valve at 7", same.tick(1 + 16 * 7), 1 + 16 * 7);
        CHECK.is("up and down of one valve at 0", same.tick(1), 1);
    }

    /** "A STATE is BAD, if all conds of some BAD line hold". */
    private static void badLines() {
        HandBook none = new HandBook();
        CHECK.is("no line, none is bad", none.judge(1023, 0), 0);
        HandBook x = Check.bookOf("bad open 0 and open 1 and above 0 6;bad open 2 and below 1 1;bad open 3;"
            + "bad above 1 6 and shut 0 and shut 1;");
        int[] bad = {3 + 112, 4, 4 + 112, 8, 1023, 128 * 7, 128 * 7 + 112, 7 + 16};
        for (int state : bad) {
            CHECK.is("bad " + state, x.judge(state, 0), 1);
            CHECK.is("is not good " + state, x.judge(state, 1), 0);
        }
        int[] fine = {0, 3, 3 + 96, 1 + 112, 2 + 112, 4 + 128, 128 * 6, 128 * 7 + 1, 128 * 7 + 2};
        for (int state : fine) {
            CHECK.is("not bad " + state, x.judge(state, 0), 0);
            CHECK.is("without good lines, good " + state, x.judge(state, 1), 1);
        }
    }

    /** "GOOD, if it is not BAD and all conds of all GOOD lines hold". */
    private static void goodLines() {
        HandBook none = new HandBook();
        CHECK.is("no line, all are good", none.judge(1023, 1), 1);
        HandBook x = Check.bookOf("good open 0 and shut 1 and above 0 0;good above 0 1;good below 1 7;"
            + "good below 1 6 and below 0 7 and shut 3;bad open 2;");
        CHECK.is("all hold", x.judge(1 + 32, 1), 1);
        CHECK.is("all hold at their ends", x.judge(1 + 16 * 6 + 128 * 5, 1), 1);
        int[] not = {32, 3 + 32, 1, 1 + 16, 1 + 32 + 128 * 7, 1 + 32 + 128 * 6, 1 + 16 * 7, 9 + 32, 5 + 32};
        for (int state : not) {
            CHECK.is("not good " + state, x.judge(state, 1), 0);
        }
        CHECK.is("all hold, but it is bad", x.judge(5 + 32, 0), 1);
        CHECK.is("what is not good need not be bad", x.judge(32, 0), 0);
    }

    /** "a cannot be opened while b is open (what would open it leaves it as it is)". */
    private static void barsHold() {
        for (int a = 0; a < 4; a++) {
            for (int b = 0; b < 4; b++) {
                if (a != b) {
                    bar(a, b);
                }
            }
        }
        HandBook all = Check.bookOf("flow 0 0 up;step open 0;step shut 1;");
        for (int b = 1; b < 4; b++) {
            all.bar(0, b, 1);
        }
        CHECK.is("none of three is open", all.on(0, 0), 1024 + 17);
        for (int open = 2; open < 16; open += 2) {
            CHECK.is("one of three is open", all.on(0, open), 1024 + open);
            CHECK.is("an open one stays open, and flows", all.on(0, open + 1), 1024 + open + 17);
        }
        // A bar neither shuts nor keeps from being shut, and does not look at states as they stand.
        CHECK.is("a state of both is a state", all.tick(3), 3 + 16);
        CHECK.is("what shuts is never barred", all.on(1, 3), 2048 + 17);
    }

    private static void bar(int a, int b) {
        HandBook x = Check.bookOf("step open " + a + ";step open " + b + ";step shut " + a + ";");
        int c = (b + 1) % 4 == a ? (b + 2) % 4 : (b + 1) % 4;
        x.like(b, a);
        x.like(a, c);
        CHECK.is("bar", x.bar(a, b, 1), 0);
        CHECK.is("one bar", x.count(5), 1);
        for (int open = 0; open < 16; open++) {
            int then = (open & 1 << b) != 0 ? open : open | 1 << a;
            String name = " with bar " + a + " " + b + " in " + open;
            CHECK.is("open a" + name, x.on(0, open), 1024 + then);
            CHECK.is("open b" + name, x.on(1, open), 2048 + (open | 1 << b));
            CHECK.is("alike a" + name, x.slip(1, open, 1), 2048 + then);
            CHECK.is("alike another" + name, x.slip(0, open, 1), 1024 + (open | 1 << c));
            CHECK.is("shut a" + name, x.on(2, open), 3072 + (open & ~(1 << a)));
        }
        CHECK.is("the bar goes", x.bar(a, b, 0), 1);
        CHECK.is("opens again", x.on(0, 1 << b), 1024 + (1 << a | 1 << b));
    }

    private static void barsOfDeedsBack() {
        for (int a = 0; a < 4; a++) {
            HandBook x = Check.bookOf("good open " + a + ";");
            int others = 15 - (1 << a);
            CHECK.is("opened at once", x.back(others, 0), 1);
            CHECK.is("by its deed", x.back(others, 1), 1 + a);
            int b = (a + 1) % 4;
            x.bar(a, b, 1);
            CHECK.is("shut b first", x.back(others, 0), 2);
            CHECK.is("that deed", x.back(others, 1), 1 + b);
            CHECK.is("b is shut", x.back(0, 0), 1);
        }
    }

    /** "LIKE: of each VALVE another one, or none (at first)". */
    private static void likes() {
        for (int valve = 0; valve < 4; valve++) {
            HandBook x = Check.bookOf("step open " + valve + ";step shut " + valve + ";");
            CHECK.is("none at first", x.slip(0, 0, 1), NONE);
            CHECK.is("none at first to shut", x.slip(1, 15, 1), NONE);
            for (int other = 0; other < 4; other++) {
                if (other != valve) {
                    CHECK.is("like", x.like(valve, other), 1);
                    CHECK.is("open alike", x.slip(0, 0, 1), 1024 + (1 << other));
                    CHECK.is("shut alike", x.slip(1, 15, 1), 2048 + 15 - (1 << other));
                    CHECK.is("going on is as it was", x.on(0, 0), 1024 + (1 << valve));
                }
            }
            CHECK.is("itself is refused", x.like(valve, valve), BAD);
            CHECK.is("the like one stays", x.slip(0, 0, 1), 1024 + (1 << (valve == 3 ? 2 : 3)));
            CHECK.is("none", x.like(valve, NONE), 1);
            CHECK.is("none then", x.slip(0, 0, 1), NONE);
        }
        // It goes one way alone.
        HandBook x = Check.bookOf("step open 0;step open 1;");
        x.like(0, 1);
        CHECK.is("0 is like 1", x.slip(0, 0, 1), 1024 + 2);
        CHECK.is("1 has none", x.slip(1, 0, 1), NONE);
    }

    /** "STATES of n ITEMS (1 to 20) of a SHEET from i on: how many are BAD .. then BAD: an ITEM is none". */
    private static void days() {
        HandBook x = Check.bookOf("bad above 0 6;");
        x.sheet(0, 1, 40);
        for (int i = 0; i < 40; i++) {
            x.set(0, i, i % 3 == 0 ? 112 + i % 16 : 96);
        }
        for (int n = 1; n <= 20; n++) {
            CHECK.is("days of " + n, x.days(0, 0, n), (n + 2) / 3);
            CHECK.is("the last " + n, x.days(0, 40 - n, n), (n + 2) / 3);
        }
        CHECK.is("beyond the end", x.days(0, 21, 20), -1000012);
        x.set(0, 10, 1023);
        CHECK.is("1023 is a state", x.days(0, 10, 1), 1);
        x.set(0, 10, 1024);
        CHECK.is("1024 is none", x.days(0, 10, 1), BAD);
        CHECK.is("none, the last of some", x.days(0, 0, 11), BAD);
        CHECK.is("short of it", x.days(0, 0, 10), 4);
        CHECK.is("none, the first of some", x.days(0, 10, 5), BAD);
        CHECK.is("behind it", x.days(0, 11, 5), 2);
        x.sheet(1, 0, 1);
        x.set(1, 0, 128);
        CHECK.is("a byte below 0 is none", x.days(1, 0, 1), BAD);
    }
}
