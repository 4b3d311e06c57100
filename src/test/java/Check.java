/** Counts the answers that are not the ones due, and ends the test. */
final class Check {
    private int wrong;
    private int seen;

    void is(String call, long got, long due) {
        seen++;
        if (got != due) {
            wrong++;
            if (wrong <= 50) {
                System.out.println(call + " answered " + got + ", due is " + due);
            }
        }
    }

    void holds(String what, boolean is) {
        is(what, is ? 1 : 0, 1);
    }

    boolean isClean() {
        return wrong == 0;
    }

    void end(String name) {
        System.out.println(name + ": " + seen + " answers, " + wrong + " not as due");
        if (wrong != 0) {
            System.exit(1);
        }
    }

    /** Feeds a text, eight bytes at a time; what the last feed answered. */
    static int feed(HandBook book, String text) {
        int answer = 0;
        for (int i = 0; i < text.length(); i += 8) {
            int n = Math.min(8, text.length() - i);
            long w = 0;
            for (int k = i; k < i + n; k++) {
                w = w << 8 | text.charAt(k) & 255;
            }
            answer = book.feed(w, n);
        }
        return answer;
    }

    static int read(HandBook book, String text) {
        feed(book, text);
        return book.book();
    }

    static HandBook bookOf(String text) {
        HandBook book = new HandBook();
        int answer = read(book, text);
        if (answer < 0) {
            throw new IllegalArgumentException("the test's own text has a fault: " + answer);
        }
        return book;
    }
}
