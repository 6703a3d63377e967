/** Promises 31 to 36: alone, full, fewest, layout, beats, unbeaten; term III. */
public final class RowsTest {
    private static final Check CHECK = new Check("RowsTest");

    private static boolean apart(int places) {
        return (places & places << 1) == 0;
    }

    private static boolean filled(int places, int n) {
        for (int i = 0; i < n; i++) {
            if ((places & 1 << i) == 0 && apart(places | 1 << i)) {
                return false;
            }
        }
        return true;
    }

    private static void byCounting() {
        for (int n = 1; n <= 14; n++) {
            BusSeats x = new BusSeats();
            long[] ways = new long[41];
            int most = 0;
            int least = 99;
            for (int places = 0; places < 1 << n; places++) {
                if (apart(places)) {
                    int k = Integer.bitCount(places);
                    ways[k]++;
                    most = Math.max(most, k);
                    least = filled(places, n) ? Math.min(least, k) : least;
                }
            }
            for (int k = 0; k <= 40; k++) {
                CHECK.sound(x, "alone(" + n + ", " + k + ")", x.alone(n, k), ways[k]);
            }
            CHECK.sound(x, "full(" + n + ")", x.full(n), most);
            CHECK.sound(x, "fewest(" + n + ")", x.fewest(n), least);
        }
    }

    /** With the last place empty as in one place less, with somebody in it as in two less. */
    private static void upToForty() {
        long[][] ways = new long[41][42];
        ways[0][0] = 1;
        for (int n = 1; n <= 40; n++) {
            BusSeats x = new BusSeats();
            for (int k = 0; k <= 40; k++) {
                long taken = k == 0 ? 0 : n == 1 ? (k == 1 ? 1 : 0) : ways[n - 2][k - 1];
                ways[n][k] = ways[n - 1][k] + taken;
                CHECK.sound(x, "alone(" + n + ", " + k + ")", x.alone(n, k), ways[n][k]);
            }
            int full = 0;
            while (ways[n][full + 1] > 0) {
                full++;
            }
            CHECK.sound(x, "full(" + n + ")", x.full(n), full);
            // Each one who sits keeps at most three places from the others, itself in the middle.
            int fewest = 0;
            for (int left = n; left > 0; left -= 3) {
                fewest++;
            }
            CHECK.sound(x, "fewest(" + n + ")", x.fewest(n), fewest);
        }
    }

    private static void rows() {
        byCounting();
        upToForty();
        BusSeats x = new BusSeats();
        CHECK.sound(x, "alone(40, 1)", x.alone(40, 1), 40);
        CHECK.sound(x, "alone(40, 12)", x.alone(40, 12), 51895935L);
        CHECK.sound(x, "alone(40, 13)", x.alone(40, 13), 37442160L);
        CHECK.sound(x, "alone(40, 20)", x.alone(40, 20), 21);
        CHECK.sound(x, "alone(39, 20)", x.alone(39, 20), 1);
        CHECK.sound(x, "alone(40, 21)", x.alone(40, 21), 0);
        CHECK.sound(x, "alone(40, 40)", x.alone(40, 40), 0);
        CHECK.sound(x, "full(40)", x.full(40), 20);
        CHECK.sound(x, "full(39)", x.full(39), 20);
        CHECK.sound(x, "fewest(40)", x.fewest(40), 14);
        CHECK.sound(x, "fewest(39)", x.fewest(39), 13);
        for (int n : new int[] {0, -1, 41, Integer.MIN_VALUE, Integer.MAX_VALUE}) {
            CHECK.refused(x, "alone(" + n + ", 1)", x.alone(n, 1), 2);
            CHECK.refused(x, "full(" + n + ")", x.full(n), 2);
            CHECK.refused(x, "fewest(" + n + ")", x.fewest(n), 2);
        }
        for (int k : new int[] {-1, 41, Integer.MIN_VALUE, Integer.MAX_VALUE}) {
            CHECK.refused(x, "alone(5, " + k + ")", x.alone(5, k), 2);
        }
        CHECK.refused(x, "layout of no bus", x.layout(0, 0), 1);
        CHECK.refused(x, "beats of no bus", x.beats(0, 1), 1);
        CHECK.refused(x, "unbeaten of no bus", x.unbeaten(), 1);
    }

    private static void layouts(int rows, int form, int door, int pace) {
        BusSeats x = CHECK.told("bus rows " + rows + " form " + form + " door " + door + " pace " + pace
            + " rise 9 sun left;rule r far;rider a on 0 off 1 by r looks 0 age 0");
        int walks = 0;
        for (int row = 0; row < rows; row++) {
            walks += pace * (1 + Math.abs(row - door));
        }
        int[][] due = {{4 * rows, 2 * rows, 0, 4 * walks}, {3 * rows, 2 * rows, rows, 3 * walks},
            {2 * rows, 2 * rows, 2 * rows, 2 * walks}};
        for (int f = 0; f < 3; f++) {
            for (int what = 0; what < 4; what++) {
                CHECK.sound(x, "layout(" + f + ", " + what + ")", x.layout(f, what), due[f][what]);
            }
            CHECK.refused(x, "layout(" + f + ", 4)", x.layout(f, 4), 1);
            CHECK.refused(x, "layout(" + f + ", -1)", x.layout(f, -1), 1);
            for (int other = 0; other < 3; other++) {
                if (f == other) {
                    CHECK.refused(x, "beats of one twice", x.beats(f, f), 1);
                } else {
                    CHECK.sound(x, "beats(" + f + ", " + other + ")", x.beats(f, other), 0);
                }
            }
        }
        CHECK.sound(x, "unbeaten", x.unbeaten(), 7);
        CHECK.refused(x, "layout(3, 0)", x.layout(3, 0), 1);
        CHECK.refused(x, "layout(-1, 0)", x.layout(-1, 0), 1);
        CHECK.refused(x, "beats(0, 3)", x.beats(0, 3), 1);
        CHECK.refused(x, "beats(3, 0)", x.beats(3, 0), 1);
        CHECK.refused(x, "beats(-1, 0)", x.beats(-1, 0), 1);
        CHECK.refused(x, "beats(0, -1)", x.beats(0, -1), 1);
    }

    public static void main(String[] args) {
        rows();
        layouts(2, 0, 0, 2);
        layouts(1, 2, 0, 9);
        layouts(5, 1, 2, 3);
        layouts(5, 0, 4, 1);
        CHECK.end();
    }
}
