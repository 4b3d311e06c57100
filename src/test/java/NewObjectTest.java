/** Promise 1: nothing is told to a new object. And the constants. */
public final class NewObjectTest {
    public static void main(String[] args) {
        Check check = new Check();
        check.is("NONE", HandBook.NONE, -1000000);
        check.is("BAD", HandBook.BAD, -1000001);
        check.is("STATE", HandBook.STATE, -1000002);
        check.is("FULL", HandBook.FULL, -1000003);
        HandBook told = Check.bookOf("flow 0 0 up;bad open 0;good shut 1;step open 0;");
        told.sheet(0, 0, 1);
        told.bar(0, 1, 1);
        told.like(0, 1);
        told.price(0, 50);
        told.set(0, 9, 9);
        told.feed('x', 1);
        // What another object was told is not told to this one.
        HandBook book = new HandBook();
        HandBook works = book;
        for (int what = 0; what < 7; what++) {
            check.is("count(" + what + ")", book.count(what), 0);
        }
        check.is("status()", book.status(), 0);
        check.is("fault()", book.fault(), 0);
        check.is("trace(0)", book.trace(0), HandBook.NONE);
        for (int sheet = 0; sheet < 8; sheet++) {
            check.is("drop(" + sheet + ")", book.drop(sheet), -1000011);
        }
        for (int a = 0; a < 4; a++) {
            for (int b = 0; b < 4; b++) {
                check.is("bar", book.bar(a, b, 0), a == b ? HandBook.BAD : 0);
            }
            check.is("price of slip " + a, book.price(a, 9), a + 1);
        }
        // An object is used for at most 512 calls, so there is a new one for each 128 states.
        for (int state = 0; state < 1024; state++) {
            works = state % 128 == 0 ? new HandBook() : works;
            check.is("tick", works.tick(state), state);
            check.is("judge bad", works.judge(state, 0), 0);
            check.is("judge good", works.judge(state, 1), 1);
        }
        for (int step = 0; step <= 16; step++) {
            check.is("on", book.on(step, 5), HandBook.NONE);
        }
        Check.read(book, "step open 0;");
        check.is("no likes at first", book.slip(0, 0, 1), HandBook.NONE);
        check.end("NewObjectTest");
    }
}
