/** Promises 9 to 14: likes, prices, bars, ticks, judging, days. */
public final class WorksTest {
    private static final int NONE = HandBook.NONE, BAD = HandBook.BAD;
    private static final Check CHECK = new Check();

    public static void main(String[] args) {
        likes();
        prices();
        bars();
        ticks();
        judging();
        days();
        CHECK.end("WorksTest");
    }

    private static void likes() {
        HandBook x = Check.bookOf("step open 0;step shut 0;");
        CHECK.is("like(-1, 0)", x.like(-1, 0), BAD);
        CHECK.is("like(4, 0)", x.like(4, 0), BAD);
        CHECK.is("like(0, 0)", x.like(0, 0), BAD);
        CHECK.is("like(0, 4)", x.like(0, 4), BAD);
        CHECK.is("like(0, -1)", x.like(0, -1), BAD);
        CHECK.is("like(NONE, NONE)", x.like(NONE, NONE), BAD);
        CHECK.is("none yet", x.slip(0, 0, 1), NONE);
        CHECK.is("like(0, 3)", x.like(0, 3), 1);
        CHECK.is("done to 3", x.slip(0, 0, 1), 1024 + 8);
        CHECK.is("a refused one leaves it", x.like(0, 0), BAD);
        CHECK.is("shut 3", x.slip(1, 9, 1), 2048 + 1);
        CHECK.is("another", x.like(0, 1), 1);
        CHECK.is("done to 1", x.slip(0, 0, 1), 1024 + 2);
        CHECK.is("none again", x.like(0, NONE), 1);
        CHECK.is("cannot be made", x.slip(0, 0, 1), NONE);
    }

    private static void prices() {
        HandBook x = Check.bookOf("bad open 0;step wait open 3;");
        CHECK.is("price(-1, 1)", x.price(-1, 1), BAD);
        CHECK.is("price(4, 1)", x.price(4, 1), BAD);
        CHECK.is("price(0, 0)", x.price(0, 0), BAD);
        CHECK.is("price(0, 100)", x.price(0, 100), BAD);
        for (int slip = 0; slip < 4; slip++) {
            CHECK.is("at first", x.price(slip, 99), slip + 1);
            CHECK.is("then", x.price(slip, 1), 99);
        }
    }

    private static void bars() {
        HandBook x = Check.bookOf("flow 1 0 up;step open 0;step shut 1;");
        CHECK.is("bar(0, 0, 1)", x.bar(0, 0, 1), BAD);
        CHECK.is("bar(4, 0, 1)", x.bar(4, 0, 1), BAD);
        CHECK.is("bar(0, 4, 1)", x.bar(0, 4, 1), BAD);
        CHECK.is("bar(-1, 0, 1)", x.bar(-1, 0, 1), BAD);
        CHECK.is("bar(0, -1, 1)", x.bar(0, -1, 1), BAD);
        CHECK.is("bar(0, 1, 2)", x.bar(0, 1, 2), BAD);
        CHECK.is("bar(0, 1, -1)", x.bar(0, 1, -1), BAD);
        CHECK.is("count(5)", x.count(5), 0);
        CHECK.is("opens beside 1", x.on(0, 2), 1024 + 3 + 16);
        CHECK.is("bar(0, 1, 1)", x.bar(0, 1, 1), 0);
        CHECK.is("bar(0, 1, 1) again", x.bar(0, 1, 1), 1);
        CHECK.is("bar(1, 0, 0) is another one", x.bar(1, 0, 0), 0);
        CHECK.is("count(5)", x.count(5), 1);
        CHECK.is("barred, but a tick", x.on(0, 2), 1024 + 2 + 16);
        CHECK.is("barred while open itself", x.on(0, 3), 1024 + 3 + 16);
        CHECK.is("1 is shut", x.on(0, 12), 1024 + 13);
        CHECK.is("what shuts is never barred", x.on(1, 3), 2048 + 1);
        x.like(0, 2);
        CHECK.is("the like one has no bar", x.slip(0, 2, 1), 1024 + 6 + 16);
        x.bar(2, 1, 1);
        CHECK.is("now it has", x.slip(0, 2, 1), 1024 + 2 + 16);
        CHECK.is("count(5)", x.count(5), 2);
        CHECK.is("bar(0, 1, 0)", x.bar(0, 1, 0), 1);
        CHECK.is("bar(0, 1, 0) again", x.bar(0, 1, 0), 0);
        CHECK.is("opens again", x.on(0, 2), 1024 + 3 + 16);
    }

    private static void ticks() {
        HandBook x = Check.bookOf("flow 0 0 up;flow 0 0 up;flow 1 0 down;flow 2 1 down;flow 3 1 up;flow 3 0 down;");
        CHECK.is("tick(-1)", x.tick(-1), BAD);
        CHECK.is("tick(1024)", x.tick(1024), BAD);
        CHECK.is("all shut", x.tick(1008), 1008);
        CHECK.is("two up", x.tick(1), 1 + 32);
        CHECK.is("7 at most", x.tick(1 + 16 * 6), 1 + 16 * 7);
        CHECK.is("0 at least", x.tick(2), 2);
        CHECK.is("one down", x.tick(2 + 16 * 3), 2 + 16 * 2);
        CHECK.is("added ahead of the bounds", x.tick(3 + 16 * 7), 3 + 16 * 7);
        CHECK.is("two up and two down at 0", x.tick(11), 11 + 128);
        CHECK.is("height 1 down", x.tick(4 + 128 * 5), 4 + 128 * 4);
        CHECK.is("up and down", x.tick(12 + 16 + 128 * 7), 12 + 128 * 7);
        Check.read(x, "flow 2 1 down;");
        CHECK.is("a flow that came later", x.tick(4 + 128 * 5), 4 + 128 * 3);
    }

    private static void judging() {
        HandBook x = new HandBook();
        CHECK.is("judge(-1, 0)", x.judge(-1, 0), BAD);
        CHECK.is("judge(1024, 0)", x.judge(1024, 0), BAD);
        CHECK.is("judge(0, 2)", x.judge(0, 2), BAD);
        CHECK.is("judge(0, -1)", x.judge(0, -1), BAD);
        Check.read(x, "bad open 0 and shut 1 and above 0 3;bad below 1 2 and open 3;good above 1 0;good below 0 6;");
        CHECK.is("all conds of the first", x.judge(1 + 16 * 4, 0), 1);
        CHECK.is("not above", x.judge(1 + 16 * 3, 0), 0);
        CHECK.is("not shut", x.judge(3 + 16 * 4, 0), 0);
        CHECK.is("the second", x.judge(8 + 128, 0), 1);
        CHECK.is("not below", x.judge(8 + 256, 0), 0);
        CHECK.is("good: all lines", x.judge(128, 1), 1);
        CHECK.is("one fails", x.judge(0, 1), 0);
        CHECK.is("the other fails", x.judge(128 + 16 * 6, 1), 0);
        CHECK.is("bad is not good", x.judge(8 + 128, 1), 0);
        CHECK.is("nor need what is not good be bad", x.judge(0, 0), 0);
        Check.read(x, "bad shut 2;");
        CHECK.is("a line that came later", x.judge(0, 0), 1);
    }

    private static void days() {
        HandBook x = Check.bookOf("bad above 0 3;");
        CHECK.is("days(8, 0, 1)", x.days(8, 0, 1), BAD);
        CHECK.is("days(0, 0, 0)", x.days(0, 0, 0), BAD);
        CHECK.is("days(0, 0, 21)", x.days(0, 0, 21), BAD);
        CHECK.is("days(0, 0, -1)", x.days(0, 0, -1), BAD);
        CHECK.is("missing", x.days(0, 0, 1), -1000011);
        x.sheet(0, 1, 21);
        CHECK.is("i below 0", x.days(0, -1, 1), -1000012);
        CHECK.is("beyond the end", x.days(0, 2, 20), -1000012);
        CHECK.is("far beyond", x.days(0, Integer.MAX_VALUE, 20), -1000012);
        CHECK.is("none is bad", x.days(0, 1, 20), 0);
        x.set(0, 3, 64);
        x.set(0, 4, 1023);
        x.set(0, 5, 48);
        CHECK.is("two are", x.days(0, 0, 20), 2);
        CHECK.is("from 4 on", x.days(0, 4, 3), 1);
        x.set(0, 6, 1024);
        CHECK.is("an item that is none", x.days(0, 4, 3), BAD);
        CHECK.is("short of it", x.days(0, 4, 2), 1);
        x.set(0, 6, -1);
        CHECK.is("an item below 0", x.days(0, 6, 1), BAD);
        CHECK.is("PLACE ahead of the item", x.days(0, 6, 20), -1000012);
        x.sheet(1, 0, 1);
        x.set(1, 0, 64);
        CHECK.is("of bytes", x.days(1, 0, 1), 1);
        x.sheet(2, 2, 1);
        x.set(2, 0, 1024 + 64);
        CHECK.is("of ints", x.days(2, 0, 1), BAD);
    }
}
