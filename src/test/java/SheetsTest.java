/** Promises 2 to 5, and 28 where these calls tell it. */
public final class SheetsTest {
    private static final int BAD = HandBook.BAD;
    private static final int NULL = -1000011, PLACE = -1000012, SIZE = -1000014, STORE = -1000015;
    private static final Check CHECK = new Check();

    public static void main(String[] args) {
        sheets();
        setting();
        copying();
        dropping();
        statuses();
        CHECK.end("SheetsTest");
    }

    private static void sheets() {
        HandBook x = new HandBook();
        CHECK.is("sheet(-1, 0, 1)", x.sheet(-1, 0, 1), BAD);
        CHECK.is("sheet(8, 0, 1)", x.sheet(8, 0, 1), BAD);
        CHECK.is("sheet(0, -1, 1)", x.sheet(0, -1, 1), BAD);
        CHECK.is("sheet(0, 3, 1)", x.sheet(0, 3, 1), BAD);
        CHECK.is("sheet(0, 0, 41)", x.sheet(0, 0, 41), BAD);
        CHECK.is("sheet(0, 0, most)", x.sheet(0, 0, Integer.MAX_VALUE), BAD);
        CHECK.is("sheet(0, 0, -1)", x.sheet(0, 0, -1), SIZE);
        CHECK.is("sheet(0, 0, least)", x.sheet(0, 0, Integer.MIN_VALUE), SIZE);
        CHECK.is("BAD ahead of SIZE: sheet", x.sheet(8, 0, -1), BAD);
        CHECK.is("BAD ahead of SIZE: lane", x.sheet(0, 3, -1), BAD);
        CHECK.is("none of these laid one", x.count(0), 0);
        CHECK.is("sheet(0, 0, 0)", x.sheet(0, 0, 0), 0);
        CHECK.is("sheet(7, 2, 40)", x.sheet(7, 2, 40), 40);
        CHECK.is("count(0)", x.count(0), 2);
        CHECK.is("a sheet of none has no place", x.set(0, 0, 0), PLACE);
        CHECK.is("set(7, 39, 5)", x.set(7, 39, 5), 5);
        CHECK.is("in place of what is there", x.sheet(7, 2, 40), 40);
        CHECK.is("count(0) again", x.count(0), 2);
        x.sheet(6, 2, 1);
        x.copy(7, 39, 6, 0, 1);
        CHECK.is("items are 0 at first", days(x, 6), 0);
        CHECK.is("smaller", x.sheet(7, 2, 3), 3);
        CHECK.is("set(7, 3, 1)", x.set(7, 3, 1), PLACE);
        CHECK.is("a refused sheet leaves the one there", x.sheet(7, 0, -1), SIZE);
        CHECK.is("drop(7)", x.drop(7), 3);
    }

    /** Whether item 0 is the state 0: with 'bad open 0' any odd state counts. */
    private static int days(HandBook x, int sheet) {
        if (x.count(3) == 0) {
            Check.read(x, "bad open 0;");
        }
        return x.days(sheet, 0, 1);
    }

    private static void setting() {
        HandBook x = new HandBook();
        CHECK.is("set(8, 0, 0)", x.set(8, 0, 0), BAD);
        CHECK.is("set(-1, 0, 0)", x.set(-1, 0, 0), BAD);
        CHECK.is("set(0, 0, 0) missing", x.set(0, 0, 0), NULL);
        CHECK.is("NULL ahead of PLACE", x.set(0, -1, 0), NULL);
        x.sheet(0, 0, 2);
        x.sheet(1, 1, 2);
        x.sheet(2, 2, 2);
        CHECK.is("set(0, -1, 0)", x.set(0, -1, 0), PLACE);
        CHECK.is("set(0, 2, 0)", x.set(0, 2, 0), PLACE);
        CHECK.is("set(0, most, 0)", x.set(0, Integer.MAX_VALUE, 0), PLACE);
        CHECK.is("set(0, least, 0)", x.set(0, Integer.MIN_VALUE, 0), PLACE);
        CHECK.is("byte 127", x.set(0, 0, 127), 127);
        CHECK.is("byte 128", x.set(0, 0, 128), -128);
        CHECK.is("byte 255", x.set(0, 1, 255), -1);
        CHECK.is("byte 256", x.set(0, 1, 256), 0);
        CHECK.is("byte -129", x.set(0, 1, -129), 127);
        CHECK.is("short 32767", x.set(1, 0, 32767), 32767);
        CHECK.is("short 32768", x.set(1, 0, 32768), -32768);
        CHECK.is("short 65537", x.set(1, 0, 65537), 1);
        CHECK.is("int most", x.set(2, 0, Integer.MAX_VALUE), Integer.MAX_VALUE);
        CHECK.is("int least", x.set(2, 1, Integer.MIN_VALUE), Integer.MIN_VALUE);
    }

    private static void copying() {
        HandBook x = new HandBook();
        x.sheet(0, 2, 5);
        x.sheet(1, 2, 3);
        x.sheet(2, 1, 5);
        CHECK.is("copy(8, ..)", x.copy(8, 0, 0, 0, 0), BAD);
        CHECK.is("copy(.., 8, ..)", x.copy(0, 0, 8, 0, 0), BAD);
        CHECK.is("copy(-1, ..)", x.copy(-1, 0, 3, 0, 0), BAD);
        CHECK.is("from a missing one", x.copy(3, 0, 0, 0, 0), NULL);
        CHECK.is("to a missing one", x.copy(0, 0, 3, 0, 0), NULL);
        CHECK.is("NULL ahead of PLACE", x.copy(0, -1, 3, 0, 0), NULL);
        CHECK.is("two lanes", x.copy(0, 0, 2, 0, 1), STORE);
        CHECK.is("STORE ahead of PLACE", x.copy(0, -1, 2, 0, 99), STORE);
        CHECK.is("i below 0", x.copy(0, -1, 1, 0, 1), PLACE);
        CHECK.is("j below 0", x.copy(0, 0, 1, -1, 1), PLACE);
        CHECK.is("n below 0", x.copy(0, 0, 1, 0, -1), PLACE);
        CHECK.is("beyond a's end", x.copy(0, 3, 1, 0, 3), PLACE);
        CHECK.is("beyond b's end", x.copy(0, 0, 1, 1, 3), PLACE);
        CHECK.is("i and n wrap around", x.copy(0, Integer.MAX_VALUE, 1, 0, 1), PLACE);
        CHECK.is("n wraps around", x.copy(0, 1, 1, 1, Integer.MAX_VALUE), PLACE);
        CHECK.is("none at the ends", x.copy(0, 5, 1, 3, 0), 0);
        CHECK.is("none beyond the end", x.copy(0, 6, 1, 3, 0), PLACE);
        for (int i = 0; i < 5; i++) {
            x.set(0, i, 1 << i);
        }
        CHECK.is("copy up within itself", x.copy(0, 0, 0, 1, 4), 4);
        // Now 1 1 2 4 8, as they were ahead, told by the valve that is open.
        Check.read(x, "bad open 0;");
        CHECK.is("1 1 2 4 8", x.days(0, 0, 5), 2);
        CHECK.is("copy down within itself", x.copy(0, 1, 0, 0, 4), 4);
        // Now 1 2 4 8 8.
        CHECK.is("1 2 4 8 8", x.days(0, 0, 5), 1);
        CHECK.is("a copy between two", x.copy(0, 0, 1, 2, 1), 1);
        CHECK.is("0 0 1", x.days(1, 0, 3), 1);
        CHECK.is("at its place", x.days(1, 2, 1), 1);
    }

    private static void dropping() {
        HandBook x = new HandBook();
        CHECK.is("drop(-1)", x.drop(-1), BAD);
        CHECK.is("drop(8)", x.drop(8), BAD);
        CHECK.is("drop(0) missing", x.drop(0), NULL);
        x.sheet(0, 0, 0);
        x.sheet(1, 0, 40);
        CHECK.is("drop(0)", x.drop(0), 0);
        CHECK.is("drop(1)", x.drop(1), 40);
        CHECK.is("drop(1) again", x.drop(1), NULL);
        CHECK.is("set of a dropped one", x.set(1, 0, 0), NULL);
        CHECK.is("days of a dropped one", x.days(1, 0, 1), NULL);
        CHECK.is("count(0)", x.count(0), 0);
    }

    private static void statuses() {
        HandBook x = new HandBook();
        x.drop(0);
        CHECK.is("NULL", x.status(), 1);
        x.drop(8);
        CHECK.is("BAD leaves it", x.status(), 1);
        x.sheet(0, 0, -1);
        CHECK.is("SIZE", x.status(), 4);
        x.sheet(0, 0, 41);
        CHECK.is("BAD leaves SIZE", x.status(), 4);
        x.sheet(0, 0, 4);
        CHECK.is("none", x.status(), 0);
        x.set(0, 4, 0);
        CHECK.is("PLACE", x.status(), 2);
        x.tick(5);
        x.feed(1, 9);
        x.feed(1, 1);
        x.book();
        x.judge(0, 0);
        x.kind(0);
        CHECK.is("other calls leave it", x.status(), 2);
        x.set(0, 0, -1);
        CHECK.is("none by set", x.status(), 0);
        x.sheet(1, 1, 4);
        x.copy(0, 0, 1, 0, 1);
        CHECK.is("STORE", x.status(), 5);
        x.days(0, 0, 1);
        CHECK.is("days with an item that is none is BAD", x.status(), 5);
        x.days(0, 1, 1);
        CHECK.is("none by days", x.status(), 0);
        x.days(0, 4, 1);
        CHECK.is("PLACE by days", x.status(), 2);
        x.copy(0, 0, 0, 0, 1);
        CHECK.is("none by copy", x.status(), 0);
        x.days(5, 0, 1);
        CHECK.is("NULL by days", x.status(), 1);
        x.drop(0);
        CHECK.is("none by drop", x.status(), 0);
    }
}
