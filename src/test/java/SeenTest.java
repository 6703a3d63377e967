/** Promises 37 to 42: seat, rider, way, led, size, trouble. */
public final class SeenTest {
    private static final Check CHECK = new Check("SeenTest");

    private static BusSeats ofForm(int rows, int form) {
        return CHECK.told("bus rows " + rows + " form " + form + " door 0 pace 1 rise 1 sun left;"
            + "rule r far;rider a on 0 off 1 by r looks 0 age 0");
    }

    /** For each k of a row: window, aisle, how far the seat beside is (0 none); -1 if there is no such seat. */
    private static void seats(int form, int[][] due) {
        for (int rows = 1; rows <= 5; rows++) {
            BusSeats x = ofForm(rows, form);
            for (int s = 0; s < 4 * rows; s++) {
                int[] d = due[s % 4];
                String name = "form " + form + " seat(" + s + ", ";
                CHECK.sound(x, name + "0)", x.seat(s, 0), d == null ? 0 : 1);
                if (d == null) {
                    for (int what = 1; what <= 3; what++) {
                        CHECK.refused(x, name + what + ")", x.seat(s, what), 1);
                    }
                    continue;
                }
                CHECK.sound(x, name + "1)", x.seat(s, 1), d[0]);
                CHECK.sound(x, name + "2)", x.seat(s, 2), d[1]);
                CHECK.sound(x, name + "3)", x.seat(s, 3), d[2] == 0 ? -2 : s + d[2]);
                CHECK.refused(x, name + "4)", x.seat(s, 4), 1);
                CHECK.refused(x, name + "-1)", x.seat(s, -1), 1);
            }
            CHECK.refused(x, "one behind the last", x.seat(4 * rows, 0), 1);
            CHECK.refused(x, "one ahead of the first", x.seat(-1, 0), 1);
            CHECK.is("seats in all", x.size(4), rows * (4 - form));
            CHECK.is("form", x.size(8), form);
        }
    }

    private static void seats() {
        seats(0, new int[][] {{1, 0, 1}, {0, 1, -1}, {0, 1, 1}, {1, 0, -1}});
        seats(1, new int[][] {{1, 1, 0}, null, {0, 1, 1}, {1, 0, -1}});
        seats(2, new int[][] {{1, 1, 0}, null, null, {1, 1, 0}});
        BusSeats n = new BusSeats();
        CHECK.refused(n, "seat of no bus", n.seat(0, 0), 1);
    }

    private static final String TOLD = "rule p alone,far,window,aisle;rule q front,back,shade,like;rule s friend;"
        + "bus rows 2 form 1 door 1 pace 4 rise 5 sun right;"
        + "rider a on 0 off 1 by s looks 9 age 99 bag proud;rider b on 10 off 11 by p looks 0 age 0 bag;"
        + "rider c on 3 off 7 by q looks 5 age 42 proud;rider d on 3 off 8 by q looks 5 age 42;"
        + "friends a,b;friends c,b;holds b row 4 seat 3;holds d row 0 seat 0;holds a row 1 seat 2";

    private static void told() {
        BusSeats x = CHECK.told(TOLD);
        int[][] riders = {{0, 1, 2, 9, 99, 1, 1, 6}, {10, 11, 0, 0, 0, 1, 0, 19}, {3, 7, 1, 5, 42, 0, 1, -2},
            {3, 8, 1, 5, 42, 0, 0, 0}};
        x.stop();
        x.at(-1);
        for (int r = 0; r < riders.length; r++) {
            for (int what = 0; what < 8; what++) {
                CHECK.is("rider(" + r + ", " + what + ")", x.rider(r, what), riders[r][what]);
            }
            CHECK.is("rider(" + r + ", 8)", x.rider(r, 8), -1);
            CHECK.is("rider(" + r + ", -1)", x.rider(r, -1), -1);
        }
        CHECK.is("rider(4, 0)", x.rider(4, 0), -1);
        CHECK.is("rider(-1, 0)", x.rider(-1, 0), -1);
        int[][] ways = {{0, 1, 2, 3}, {4, 5, 6, 7}, {8}};
        for (int r = 0; r < ways.length; r++) {
            for (int i = 0; i < ways[r].length; i++) {
                CHECK.is("way(" + r + ", " + i + ")", x.way(r, i), ways[r][i]);
            }
            CHECK.is("way behind the last of " + r, x.way(r, ways[r].length), -1);
            CHECK.is("way ahead of the first of " + r, x.way(r, -1), -1);
        }
        CHECK.is("way(3, 0)", x.way(3, 0), -1);
        CHECK.is("way(-1, 0)", x.way(-1, 0), -1);
        CHECK.is("none of these touches trouble", x.trouble(), 1);
    }

    private static void sizes() {
        BusSeats x = CHECK.told(TOLD);
        x.stop();
        x.stop();
        x.mark();
        x.mark();
        x.mark();
        x.film(0, 0);
        x.feed(0, 0, 0, 0, 0);
        x.feed(0, 0, 0, 0, 0);
        x.at(-1);
        int[] due = {4, 3, 2, 3, 6, 2, 3, 1, 1, 40};
        for (int what = 0; what < due.length; what++) {
            CHECK.is("size(" + what + ")", x.size(what), due[what]);
        }
        CHECK.is("size(10)", x.size(10), -1);
        CHECK.is("size(-1)", x.size(-1), -1);
        CHECK.is("size touches no trouble", x.trouble(), 1);
        CHECK.ledThrows(x, 0);
        CHECK.is("led touches no trouble", x.trouble(), 1);
        BusSeats n = new BusSeats();
        for (int what = 0; what < due.length; what++) {
            CHECK.is("size(" + what + ") of no bus", n.size(what), 0);
        }
        CHECK.is("size(10) of no bus", n.size(10), -1);
        CHECK.is("rider of no bus", n.rider(0, 0), -1);
        CHECK.is("way of no bus", n.way(0, 0), -1);
        CHECK.is("trouble of no bus", n.trouble(), 0);
        CHECK.ledThrows(n, 0);
    }

    private static void led() {
        BusSeats x = CHECK.told("bus rows 1 form 2 door 0 pace 1 rise 1 sun left;rule r far;"
            + "rider a on 1 off 9 by r looks 0 age 50;rider b on 0 off 9 by r looks 0 age 50;"
            + "rider c on 1 off 9 by r looks 0 age 50;rider d on 0 off 9 by r looks 0 age 50;"
            + "rider e on 2 off 9 by r looks 0 age 50");
        CHECK.ledThrows(x, 0);
        CHECK.stops(x, 2);
        CHECK.is("led(0)", x.led(0), 0);
        CHECK.is("led(1)", x.led(1), 2);
        CHECK.ledThrows(x, 2);
        CHECK.ledThrows(x, Integer.MIN_VALUE);
        CHECK.ledThrows(x, Integer.MAX_VALUE);
        CHECK.stops(x, 1);
        CHECK.is("led(2)", x.led(2), 4);
    }

    /** A refused call leaves its number till the next call that may be refused. */
    private static void trouble() {
        BusSeats x = CHECK.told(TOLD);
        CHECK.is("behind bus", x.trouble(), 0);
        x.at(9);
        CHECK.is("1", x.trouble(), 1);
        x.trouble();
        CHECK.is("1 still", x.trouble(), 1);
        x.alone(0, 0);
        CHECK.is("2", x.trouble(), 2);
        x.at(0);
        CHECK.is("0 again", x.trouble(), 0);
        for (int i = 0; i < 5; i++) {
            x.mark();
        }
        CHECK.is("3", x.trouble(), 3);
        x.bus(0);
        CHECK.is("4", x.trouble(), 4);
        x.fault();
        x.where();
        CHECK.is("4 still", x.trouble(), 4);
        x.odds(1, 0);
        CHECK.is("5", x.trouble(), 5);
        x.likely();
        CHECK.is("6", x.trouble(), 6);
        x.back(0);
        CHECK.is("0 behind back", x.trouble(), 0);
        x.likely();
        x.sorted();
        CHECK.is("0 behind sorted", x.trouble(), 0);
        x.likely();
        x.ways();
        CHECK.is("0 behind ways", x.trouble(), 0);
        x.likely();
        x.odds(0, 0);
        CHECK.is("0 behind odds", x.trouble(), 0);
        x.likely();
        x.alone(1, 1);
        CHECK.is("0 behind alone", x.trouble(), 0);
    }

    public static void main(String[] args) {
        seats();
        told();
        sizes();
        led();
        trouble();
        CHECK.end();
    }
}
