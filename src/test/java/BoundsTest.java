import java.util.EnumMap;
import java.util.List;
import java.util.Map;

/**
 * The bounds of every call's arguments, on buses in several states: the least and the greatest that is let through,
 * the first on either side that is refused and the utmost numbers, the trouble behind each, and that a refused call
 * leaves all as it was.
 */
public final class BoundsTest {
    private static final Check CHECK = new Check("BoundsTest");
    private static final int MIN = Integer.MIN_VALUE;
    private static final int MAX = Integer.MAX_VALUE;

    private interface Call {
        long on(BusSeats x);
    }

    private interface OneNumber {
        long on(BusSeats x, int n);
    }

    /** What an object has behind it when a call comes. */
    private enum Past { NEW, AHEAD, UNDER_WAY, COMING, FULL, ENDED, RUSH, SEVEN }

    private static final Map<Past, List<Long>> WAS = new EnumMap<>(Past.class);

    // Behind stop 2: A stands (it gave its seat to D), B is off, C in 2, D in 0, E comes on at 5, G stands.
    private static final String TOLD = "bus rows 2 form 0 door 1 pace 2 rise 3 sun left;rule f front;rule w window,far;"
        + "rider a on 0 off 9 by w looks 1 age 20 bag;rider b on 0 off 1 by f looks 2 age 50;"
        + "rider c on 1 off 8 by f looks 3 age 50 proud;rider d on 1 off 8 by f looks 4 age 70 proud;"
        + "rider e on 5 off 6 by w looks 5 age 50;rider g on 2 off 8 by f looks 6 age 30 proud;"
        + "friends a,c;holds e row 1 seat 3";
    private static final int RIDERS = 6;
    private static final int SEATS = 8;
    private static final String SMALL = "bus rows 1 form 2 door 0 pace 1 rise 1 sun none;rule r back;"
        + "rider q on 0 off 1 by r looks 0 age 0";

    private static BusSeats in(Past past) {
        BusSeats x = new BusSeats();
        switch (past) {
            case NEW:
                Check.feed(x, SMALL + "!");
                return x;
            case RUSH:
                Check.tell(x, crowd(5));
                break;
            case SEVEN:
                Check.tell(x, crowd(7));
                x.stop();
                break;
            default:
                Check.tell(x, TOLD);
        }
        if (past == Past.UNDER_WAY || past == Past.FULL || past == Past.COMING) {
            x.stop();
            x.mark();
            CHECK.stops(x, past == Past.COMING ? 4 : 2);
            x.mark();
            x.film(1, 2);
            x.film(128, 0);
        }
        if (past == Past.ENDED) {
            x.run();
        }
        if (past == Past.FULL) {
            x.mark();
            x.mark();
            for (int i = 2; i < 12; i++) {
                x.film(254, 0);
            }
            Check.feed(x, SMALL + " ".repeat(900 - SMALL.length()));
        } else {
            Check.feed(x, SMALL);
        }
        return x;
    }

    private static String crowd(int riders) {
        StringBuilder text = new StringBuilder("bus rows 2 form 0 door 0 pace 1 rise 1 sun none;rule r back");
        for (int i = 0; i < riders; i++) {
            text.append(";rider ").append((char) ('a' + i)).append(" on 0 off ").append(i + 1)
                .append(" by r looks 0 age 50");
        }
        return text.toString();
    }

    private static void refused(Past past, String what, Call call, long due, int number) {
        BusSeats x = in(past);
        CHECK.refused(x, past + ": " + what, call.on(x), due, number);
        CHECK.is(past + ": where behind " + what, x.where(), -1);
        List<Long> was = WAS.computeIfAbsent(past, p -> Seen.of(in(p)));
        CHECK.is(past + ": all as it was behind " + what, Seen.of(x).equals(was) ? 1 : 0, 1);
    }

    private static void refused(Past past, String what, Call call, int number) {
        refused(past, what, call, -1, number);
    }

    private static void through(Past past, String what, Call call) {
        BusSeats x = in(past);
        long got = call.on(x);
        CHECK.is(past + ": trouble behind " + what, x.trouble(), 0);
        CHECK.is(past + ": " + what + " answers", got == -1 || got == -1000 ? 0 : 1, 1);
    }

    /** A number from least to most is let through, any other is refused. */
    private static void bounds(Past past, String what, OneNumber call, int least, int most, int number) {
        for (int n : new int[] {least, most}) {
            through(past, what + " of " + n, x -> call.on(x, n));
        }
        outside(past, what, call, least, most, number);
    }

    private static void outside(Past past, String what, OneNumber call, int least, int most, int number) {
        for (int n : new int[] {least - 1, most + 1, MIN, MIN + 1, MAX - 1, MAX}) {
            refused(past, what + " of " + n, x -> call.on(x, n), number);
        }
    }

    private static void withoutBus() {
        Past n = Past.NEW;
        refused(n, "stop", BusSeats::stop, 1);
        refused(n, "run", BusSeats::run, 1);
        refused(n, "standing", BusSeats::standing, 1);
        refused(n, "free", BusSeats::free, 1);
        refused(n, "given", BusSeats::given, 1);
        refused(n, "sorted", BusSeats::sorted, -1000, 1);
        refused(n, "mark", BusSeats::mark, 1);
        refused(n, "ways", BusSeats::ways, 1);
        refused(n, "likely", BusSeats::likely, 1);
        refused(n, "deals", BusSeats::deals, 1);
        refused(n, "unbeaten", BusSeats::unbeaten, 1);
        for (int i : new int[] {MIN, -2, -1, 0, 1, 2, 19, 20, 101, MAX}) {
            refused(n, "seconds of " + i, x -> x.seconds(i), 1);
            refused(n, "at of " + i, x -> x.at(i), 1);
            refused(n, "sits of " + i, x -> x.sits(i), 1);
            refused(n, "bag of " + i, x -> x.bag(i), 1);
            refused(n, "order of " + i, x -> x.order(i), 1);
            refused(n, "shunned of " + i, x -> x.shunned(i), 1);
            refused(n, "back of " + i, x -> x.back(i) ? 1 : 0, 0, 1);
            refused(n, "choice of " + i, x -> x.choice(i), 1);
            refused(n, "ties of " + i, x -> x.ties(i), 1);
            refused(n, "odds of 0 and " + i, x -> x.odds(0, i), 1);
            refused(n, "odds of " + i + " and 0", x -> x.odds(i, 0), 1);
            refused(n, "monday of " + i, x -> x.monday(i), 1);
            refused(n, "doorway of 0 and " + i, x -> x.doorway(0, i), 1);
            refused(n, "film of 0 and " + i, x -> x.film(0, i), 1);
            refused(n, "film of " + i + " and 0", x -> x.film(i, 0), 1);
            refused(n, "agrees of " + i, x -> x.agrees(i), 1);
            refused(n, "dealt of " + i, x -> x.dealt(i), 1);
            refused(n, "layout of 0 and " + i, x -> x.layout(0, i), 1);
            refused(n, "layout of " + i + " and 0", x -> x.layout(i, 0), 1);
            refused(n, "beats of 0 and " + i, x -> x.beats(0, i), 1);
            refused(n, "seat of 0 and " + i, x -> x.seat(0, i), 1);
            refused(n, "seat of " + i + " and 0", x -> x.seat(i, 0), 1);
        }
    }

    private static void stops() {
        Past u = Past.UNDER_WAY;
        bounds(u, "seconds", BusSeats::seconds, 0, 2, 1);
        outside(Past.AHEAD, "seconds", BusSeats::seconds, 0, -1, 1);
        bounds(Past.ENDED, "seconds", BusSeats::seconds, 0, 11, 1);
        bounds(u, "at", BusSeats::at, 0, RIDERS - 1, 1);
        outside(u, "order", BusSeats::order, 0, RIDERS - 1, 1);
        outside(u, "shunned", BusSeats::shunned, 0, RIDERS - 1, 1);
        for (int r = 0; r < 4; r++) {
            int rider = r;
            through(u, "order of " + r, x -> x.order(rider));
            through(u, "shunned of " + r, x -> x.shunned(rider));
        }
        for (int r = 4; r < RIDERS; r++) {
            int rider = r;
            refused(u, "order of " + r, x -> x.order(rider), 6);
            refused(u, "shunned of " + r, x -> x.shunned(rider), 6);
        }
        through(u, "stop", BusSeats::stop);
        refused(Past.ENDED, "stop", BusSeats::stop, 6);
        through(Past.ENDED, "run", BusSeats::run);
        through(Past.UNDER_WAY, "mark", BusSeats::mark);
        refused(Past.FULL, "mark", BusSeats::mark, 3);
        backs(Past.AHEAD, 0);
        backs(u, 2);
        backs(Past.FULL, 4);
        bagsAndSitters();
        seatsOfForms();
    }

    private static void backs(Past past, int marks) {
        for (int mark = 0; mark < marks; mark++) {
            BusSeats x = in(past);
            CHECK.sound(x, past + ": back of " + mark, x.back(mark) ? 1 : 0, 1);
        }
        for (int n : new int[] {-1, marks, MIN, MAX}) {
            refused(past, "back of " + n, x -> x.back(n) ? 1 : 0, 0, 1);
        }
    }

    /** Nobody and no bag are answered by -2, which is no refusal. */
    private static void bagsAndSitters() {
        for (Past past : new Past[] {Past.AHEAD, Past.UNDER_WAY, Past.ENDED}) {
            bounds(past, "sits", BusSeats::sits, 0, SEATS - 1, 1);
            bounds(past, "bag", BusSeats::bag, 0, SEATS - 1, 1);
            bounds(past, "monday", BusSeats::monday, 0, SEATS - 1, 1);
        }
    }

    /** Every number around a bus of each form and length: a seat, or none such. */
    private static void seatsOfForms() {
        String[] there = {"1111", "1011", "1001"};
        for (int form = 0; form < 3; form++) {
            for (int rows = 1; rows <= 5; rows++) {
                String text = SMALL.replace("rows 1 form 2", "rows " + rows + " form " + form);
                BusSeats x = CHECK.told(text);
                for (int s = -4; s < 24; s++) {
                    boolean is = s >= 0 && s < 4 * rows && there[form].charAt(s % 4) == '1';
                    String what = " of " + s + " with " + rows + " rows in form " + form;
                    CHECK.refused(x, "sits" + what, x.sits(s), is ? -2 : -1, is ? 0 : 1);
                    CHECK.refused(x, "bag" + what, x.bag(s), is ? -2 : -1, is ? 0 : 1);
                    CHECK.refused(x, "monday" + what, x.monday(s), is ? 0 : -1, is ? 0 : 1);
                    BusSeats y = CHECK.told(text);
                    CHECK.refused(y, "odds" + what, y.odds(0, s) < 0 ? -1 : 0, is ? 0 : -1, is ? 0 : 1);
                    CHECK.refused(y, "film" + what, y.film(0, s), is ? 1 : -1, is ? 0 : 1);
                    int bits = s < 0 || s > 30 ? 0 : 1 << s;
                    int other = s == 0 ? 3 : 0;
                    CHECK.refused(y, "film while taken" + what, y.film(bits, other),
                        is ? 2 : s < 0 ? 1 : -1, is || s < 0 ? 0 : 2);
                }
            }
        }
    }

    private static void choosing() {
        Past u = Past.UNDER_WAY;
        outside(u, "choice", BusSeats::choice, 0, RIDERS - 1, 1);
        outside(u, "ties", BusSeats::ties, 0, RIDERS - 1, 1);
        for (int r : new int[] {0, 4, 5}) {
            through(u, "choice of " + r, x -> x.choice(r));
            through(u, "ties of " + r, x -> x.ties(r));
        }
        for (int r : new int[] {1, 2, 3}) {
            refused(u, "choice of " + r, x -> x.choice(r), 5);
            refused(u, "ties of " + r, x -> x.ties(r), 5);
        }
        for (int r = 0; r < RIDERS; r++) {
            int rider = r;
            if (r == 4) {
                bounds(Past.COMING, "odds of 4 and", (x, s) -> x.odds(4, s), 0, SEATS - 1, 1);
            } else {
                refused(Past.COMING, "odds of " + r, x -> x.odds(rider, 0), 5);
            }
            refused(u, "odds of " + r + " while nobody comes on", x -> x.odds(rider, 0), 5);
            refused(Past.ENDED, "odds of " + r, x -> x.odds(rider, 0), 5);
        }
        outside(Past.COMING, "odds of 0 and a rider", (x, r) -> x.odds(r, 0), 0, RIDERS - 1, 1);
        for (int r = 0; r < 5; r++) {
            int rider = r;
            refused(Past.RUSH, "odds of " + r + " of five", x -> x.odds(rider, 0), 3);
            refused(Past.RUSH, "odds of five in no seat", x -> x.odds(rider, SEATS), 1);
        }
        refused(Past.RUSH, "odds of none of five", x -> x.odds(5, 0), 1);
        refused(Past.RUSH, "ways of five", BusSeats::ways, 3);
        through(u, "ways of nobody", BusSeats::ways);
        through(Past.COMING, "ways of one", BusSeats::ways);
        refused(Past.ENDED, "ways", BusSeats::ways, 6);
        doorways();
    }

    private static void doorways() {
        Past u = Past.UNDER_WAY;
        through(u, "doorway of 0 and 5", x -> x.doorway(0, 5));
        through(u, "doorway of 5 and 0", x -> x.doorway(5, 0));
        outside(u, "doorway of 0 and", (x, r) -> x.doorway(0, r), 0, RIDERS - 1, 1);
        outside(u, "doorway with 5 of", (x, r) -> x.doorway(r, 5), 0, RIDERS - 1, 1);
        for (int r = 0; r < RIDERS; r++) {
            int rider = r;
            refused(u, "doorway of " + r + " twice", x -> x.doorway(rider, rider), 1);
            if (r > 0 && r < 5) {
                refused(u, "doorway of 0 and " + r, x -> x.doorway(0, rider), 5);
                refused(u, "doorway of " + r + " and 0", x -> x.doorway(rider, 0), 5);
            }
        }
        refused(u, "doorway of two such as are not", x -> x.doorway(-1, -1), 1);
        refused(u, "doorway of one who sits and none such", x -> x.doorway(2, RIDERS), 1);
    }

    private static void filmsAndDeals() {
        Past u = Past.UNDER_WAY;
        bounds(u, "film of none taken and", (x, s) -> x.film(0, s), 0, SEATS - 1, 1);
        bounds(u, "film in 0 while taken", (x, bits) -> x.film(bits, 0), 0, 0, 2);
        for (int s = 0; s < SEATS; s++) {
            int seat = s;
            through(u, "film of all others and " + s, x -> x.film(255 & ~(1 << seat), seat));
            refused(u, "film of all and " + s, x -> x.film(255, seat), 2);
            refused(u, "film of " + s + " itself", x -> x.film(1 << seat, seat), 2);
        }
        for (int bit = SEATS; bit < 32; bit++) {
            int bits = 1 << bit;
            refused(u, "film of bit " + bit, x -> x.film(bits, 0), 2);
        }
        refused(u, "film of bad bits in no seat", x -> x.film(-1, SEATS), 1);
        refused(Past.FULL, "film 13", x -> x.film(0, 0), 3);
        refused(Past.FULL, "film 13 of bad bits", x -> x.film(256, 0), 2);
        refused(Past.FULL, "film 13 in no seat", x -> x.film(0, SEATS), 1);
        bounds(u, "agrees", BusSeats::agrees, 0, 1, 1);
        through(u, "likely", BusSeats::likely);
        refused(Past.AHEAD, "likely", BusSeats::likely, 6);
        for (Past past : new Past[] {Past.AHEAD, u, Past.ENDED}) {
            for (int r = 0; r < 5; r++) {
                int rider = r;
                through(past, "dealt of " + r, x -> x.dealt(rider));
            }
            refused(past, "dealt of who never sits", x -> x.dealt(5), 5);
            outside(past, "dealt", BusSeats::dealt, 0, RIDERS - 1, 1);
            through(past, "deals", BusSeats::deals);
        }
        for (int r = 0; r < 7; r++) {
            int rider = r;
            refused(Past.SEVEN, "dealt of " + r + " of seven", x -> x.dealt(rider), 3);
        }
        refused(Past.SEVEN, "dealt of none of seven", x -> x.dealt(7), 1);
        refused(Past.SEVEN, "dealt ahead of seven", x -> x.dealt(-1), 1);
        refused(Past.SEVEN, "deals of seven", BusSeats::deals, 3);
    }

    private static void rowsAndSeen() {
        for (Past past : new Past[] {Past.NEW, Past.UNDER_WAY, Past.FULL}) {
            bounds(past, "alone of n and 3", (x, n) -> x.alone(n, 3), 1, 40, 2);
            bounds(past, "alone of 9 and", (x, k) -> x.alone(9, k), 0, 40, 2);
            bounds(past, "full", BusSeats::full, 1, 40, 2);
            bounds(past, "fewest", BusSeats::fewest, 1, 40, 2);
            refused(past, "alone of neither", x -> x.alone(0, 41), 2);
        }
        Past u = Past.UNDER_WAY;
        bounds(u, "layout of a form and 0", (x, f) -> x.layout(f, 0), 0, 2, 1);
        bounds(u, "layout of 1 and", (x, w) -> x.layout(1, w), 0, 3, 1);
        bounds(u, "beats of 2 and", (x, f) -> x.beats(2, f), 0, 1, 1);
        bounds(u, "beats of a form and 0", (x, f) -> x.beats(f, 0), 1, 2, 1);
        refused(u, "beats of 2 and 3", x -> x.beats(2, 3), 1);
        refused(u, "beats of 3 twice", x -> x.beats(3, 3), 1);
        refused(u, "beats of -1 and 0", x -> x.beats(-1, 0), 1);
        bounds(u, "seat of s and 0", (x, s) -> x.seat(s, 0), 0, SEATS - 1, 1);
        bounds(u, "seat of 5 and", (x, w) -> x.seat(5, w), 0, 3, 1);
        unnumbered(Past.NEW);
        unnumbered(u);
    }

    /** Calls of which no number is told: whatever they are asked, trouble and all else stay. */
    private static void unnumbered(Past past) {
        boolean none = past == Past.NEW;
        for (int n : new int[] {MIN, MIN + 1, -2, -1, 10, 99, MAX - 1, MAX}) {
            for (int number : new int[] {1, 2}) {
                BusSeats x = in(past);
                if (number == 1) {
                    x.at(-1);
                } else {
                    x.full(0);
                }
                CHECK.is("rider(" + n + ", 0)", x.rider(n, 0), -1);
                CHECK.is("rider(0, " + n + ")", x.rider(0, n), -1);
                CHECK.is("way(" + n + ", 0)", x.way(n, 0), -1);
                CHECK.is("way(0, " + n + ")", x.way(0, n), -1);
                CHECK.is("size(" + n + ")", x.size(n), -1);
                CHECK.ledThrows(x, n);
                CHECK.is("trouble stays", x.trouble(), number);
                List<Long> was = WAS.computeIfAbsent(past, p -> Seen.of(in(p)));
                CHECK.is("all stays behind " + n, Seen.of(x).equals(was) ? 1 : 0, 1);
            }
        }
        BusSeats x = in(past);
        CHECK.is("rider(0, 7)", x.rider(0, 7), none ? -1 : -2);
        CHECK.is("rider(5, 0)", x.rider(RIDERS - 1, 0), none ? -1 : 2);
        CHECK.is("rider(6, 0)", x.rider(RIDERS, 0), -1);
        CHECK.is("rider(0, 8)", x.rider(0, 8), -1);
        CHECK.is("way(1, 1)", x.way(1, 1), none ? -1 : 1);
        CHECK.is("way(1, 2)", x.way(1, 2), -1);
        CHECK.is("way(2, 0)", x.way(2, 0), -1);
        CHECK.is("size(9)", x.size(9), 100);
        if (none) {
            CHECK.ledThrows(x, 0);
        } else {
            CHECK.is("led(0)", x.led(0), 0);
            CHECK.is("led(1)", x.led(1), 5);
            CHECK.ledThrows(x, 2);
        }
        CHECK.is("no trouble by any of these", x.trouble(), 0);
    }

    private static void busAndFeed() {
        for (Past past : new Past[] {Past.NEW, Past.UNDER_WAY, Past.FULL}) {
            int length = past == Past.FULL ? 900 : 100;
            BusSeats x = in(past);
            CHECK.is(past + ": bytes of the tape", x.size(9), length);
            for (int n : new int[] {-1, length + 1, MIN, MIN + 1, MAX - 1, MAX}) {
                refused(past, "bus of " + n, y -> y.bus(n), 2);
            }
        }
        // A feed that does not fit leaves the tape, the trouble and all else.
        BusSeats x = in(Past.FULL);
        x.full(0);
        CHECK.is("feed of too much", x.feed(MIN, MAX, -1, 0, 1), -1);
        CHECK.is("trouble stays", x.trouble(), 2);
        CHECK.is("a full tape stays", Seen.of(x).equals(WAS.get(Past.FULL)) ? 1 : 0, 1);
        BusSeats y = in(Past.UNDER_WAY);
        CHECK.sound(y, "bus of all", y.bus(100), 1);
        BusSeats z = in(Past.UNDER_WAY);
        CHECK.refused(z, "bus of none", z.bus(0), 4);
        CHECK.is("fault of none", z.fault(), 1);
        CHECK.is("where of none", z.where(), 0);
        CHECK.is("the tape is empty then", z.size(9), 0);
        CHECK.is("the bus stays", z.size(0), RIDERS);
        CHECK.is("its stops stay", z.size(5), 3);
        CHECK.is("its marks stay", z.size(6), 2);
        CHECK.is("its films stay", z.size(7), 2);
        CHECK.is("who stands stays", z.standing(), 33);
    }

    public static void main(String[] args) {
        withoutBus();
        stops();
        choosing();
        filmsAndDeals();
        rowsAndSeen();
        busAndFeed();
        CHECK.end();
    }
}
