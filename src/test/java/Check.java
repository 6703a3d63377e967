import java.nio.charset.StandardCharsets;
import java.util.NoSuchElementException;

/** What all tests use: a text fed to a new object, answers held against those that are due, the end. */
final class Check {
    private final String test;
    private int asked;
    private int wrong;

    Check(String test) {
        this.test = test;
    }

    /** The numbers of a text for feed, twenty bytes a row, filled up with blanks. */
    static int[][] rows(String text) {
        byte[] bytes = text.getBytes(StandardCharsets.ISO_8859_1);
        int[][] rows = new int[(bytes.length + 19) / 20][5];
        for (int i = 0; i < rows.length * 20; i++) {
            int sign = i < bytes.length ? bytes[i] & 255 : ' ';
            rows[i / 20][i % 20 / 4] |= sign << (24 - 8 * (i % 4));
        }
        return rows;
    }

    static void feed(BusSeats x, String text) {
        for (int[] row : rows(text)) {
            x.feed(row[0], row[1], row[2], row[3], row[4]);
        }
    }

    /** Feeds a text and tells it as a bus: what bus answered. */
    static int tell(BusSeats x, String text) {
        feed(x, text);
        return x.bus(text.length());
    }

    /** A new object with a bus that must be sound. */
    BusSeats told(String text) {
        BusSeats x = new BusSeats();
        int riders = tell(x, text);
        is("bus of " + text, riders > 0 ? 1 : 0, 1);
        return x;
    }

    void is(String what, long got, long due) {
        asked++;
        if (got != due) {
            wrong++;
            System.out.println(what + " answered " + got + ", due is " + due);
        }
    }

    /** An answer that is no refusal: the trouble behind it is 0. */
    void sound(BusSeats x, String what, long got, long due) {
        is(what, got, due);
        is("trouble behind " + what, x.trouble(), 0);
    }

    /** A refusal by NONE with a number. */
    void refused(BusSeats x, String what, long got, int number) {
        refused(x, what, got, -1, number);
    }

    void refused(BusSeats x, String what, long got, long due, int number) {
        is(what, got, due);
        is("trouble behind " + what, x.trouble(), number);
    }

    /** led(i) throws. */
    void ledThrows(BusSeats x, int i) {
        int threw = 0;
        try {
            x.led(i);
        } catch (NoSuchElementException e) {
            threw = 1;
        }
        is("led(" + i + ") throwing", threw, 1);
    }

    void stops(BusSeats x, int n) {
        for (int i = 0; i < n; i++) {
            x.stop();
        }
    }

    void end() {
        System.out.println(test + ": " + asked + " answers, " + wrong + " wrong");
        if (wrong != 0) {
            System.exit(1);
        }
    }
}
