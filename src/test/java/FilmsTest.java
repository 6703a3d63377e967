/** Promises 26 to 30: film, agrees, likely, dealt, deals; term III. */
public final class FilmsTest {
    private static final Check CHECK = new Check("FilmsTest");

    private static BusSeats byRules(int rows, int form, String... ways) {
        StringBuilder text = new StringBuilder("bus rows " + rows + " form " + form + " door 0 pace 1 rise 1 sun left");
        for (int i = 0; i < ways.length; i++) {
            text.append(";rule ").append((char) ('p' + i)).append(' ').append(ways[i]);
        }
        return CHECK.told(text + ";rider a on 0 off 9 by p looks 0 age 50 bag;rider b on 0 off 9 by p looks 0 age 50;"
            + "friends a,b;holds a row 0 seat 2");
    }

    private static void agree(BusSeats x, int... due) {
        for (int i = 0; i < due.length; i++) {
            CHECK.sound(x, "agrees(" + i + ")", x.agrees(i), due[i]);
        }
    }

    private static void films() {
        BusSeats x = byRules(2, 0, "window", "aisle,back", "alone", "like");
        agree(x, 0, 0, 0, 0);
        CHECK.refused(x, "likely without films", x.likely(), 6);
        CHECK.sound(x, "a window", x.film(0, 7), 1);
        agree(x, 1, 0, 1, 1);
        CHECK.sound(x, "likely, the first such", x.likely(), 0);
        // Behind an aisle seat's neighbour at the window: beside one of looks 5.
        CHECK.sound(x, "an aisle at the back", x.film(1 << 4, 5), 2);
        agree(x, 1, 1, 1, 2);
        CHECK.sound(x, "likely, like", x.likely(), 3);
        CHECK.sound(x, "alone", x.film(1 << 4, 6), 3);
        agree(x, 1, 2, 2, 2);
        CHECK.sound(x, "likely, the first of three", x.likely(), 1);
        CHECK.sound(x, "by the only window left", x.film(0x81 | 8, 4), 4);
        agree(x, 2, 2, 3, 2);
        CHECK.sound(x, "likely, alone", x.likely(), 2);
        CHECK.is("films", x.size(7), 4);
        CHECK.refused(x, "agrees(4)", x.agrees(4), 1);
        CHECK.refused(x, "agrees(-1)", x.agrees(-1), 1);
        // What goes on in the bus is of no matter: neither who sits there, nor bags, nor what is held.
        CHECK.stops(x, 1);
        agree(x, 2, 2, 3, 2);
        refusals(x);
        BusSeats n = new BusSeats();
        CHECK.refused(n, "film of no bus", n.film(0, 0), 1);
        CHECK.refused(n, "agrees of no bus", n.agrees(0), 1);
        CHECK.refused(n, "likely of no bus", n.likely(), 1);
    }

    private static void refusals(BusSeats x) {
        CHECK.refused(x, "a seat that is not", x.film(0, 8), 1);
        CHECK.refused(x, "a seat below", x.film(0, -1), 1);
        CHECK.refused(x, "bits of none such", x.film(1 << 8, 0), 2);
        CHECK.refused(x, "the sign's bit", x.film(Integer.MIN_VALUE, 0), 2);
        CHECK.refused(x, "all bits", x.film(-1, 0), 2);
        CHECK.refused(x, "that seat among them", x.film(3, 1), 2);
        CHECK.refused(x, "no such seat, no such bits", x.film(-1, 9), 1);
        for (int i = 5; i <= 12; i++) {
            CHECK.sound(x, "film " + i, x.film(0xfe, 0), i);
        }
        CHECK.refused(x, "film 13", x.film(0, 0), 3);
        CHECK.refused(x, "film 13 of bad bits", x.film(1, 0), 2);
        CHECK.is("films at most", x.size(7), 12);
        CHECK.sound(x, "a single seat left is best", x.agrees(0), 2 + 8);
        BusSeats y = byRules(1, 2, "window");
        CHECK.refused(y, "seat 1 in form 2", y.film(0, 1), 1);
        CHECK.refused(y, "bit 1 in form 2", y.film(2, 0), 2);
        CHECK.sound(y, "bit 3 in form 2", y.film(8, 0), 1);
    }

    private static void otherWays() {
        BusSeats x = byRules(3, 0, "far", "friend", "shade,front", "back,window");
        x.film(1, 11);
        agree(x, 1, 1, 0, 1);
        x.film(1, 10);
        agree(x, 1, 2, 0, 1);
        x.film(1, 2);
        agree(x, 1, 3, 1, 1);
        x.film(4, 3);
        agree(x, 1, 4, 2, 1);
        x.film(0x801, 3);
        // From 0 and 11: 3 is far 3 of 0, 4 of 11; 8 is far 4 and 3; 7 is 5 and 2.
        agree(x, 2, 5, 3, 1);
        CHECK.is("likely", x.likely(), 1);
        // Two rows as far as four seats: 2, 4, 6 and 8 are far 2 of the nearer of 0 and 10.
        BusSeats y = byRules(3, 1, "aisle,far");
        for (int s = 2; s <= 8; s += 2) {
            y.film(1 | 1 << 10, s);
        }
        agree(y, 4);
    }

    /** A at one window, B at the other, C beside whom it likes more. */
    private static String deal(String more) {
        return "bus rows 1 form 0 door 0 pace 1 rise 1 sun left;rule w window;rule k like;"
            + "rider a on 0 off 9 by w looks 0 age 50;rider b on 0 off 9 by w looks 9 age 50;"
            + "rider c on 1 off 9 by k looks 0 age 50" + more;
    }

    private static void deals() {
        BusSeats x = CHECK.told(deal(""));
        CHECK.sound(x, "deals of three", x.deals(), 6);
        CHECK.sound(x, "dealt(0): joined second or later", x.dealt(0), 6);
        CHECK.sound(x, "dealt(1): never joined", x.dealt(1), 4);
        CHECK.sound(x, "dealt(2)", x.dealt(2), 6);
        CHECK.is("nothing is run by it", x.size(5), 0);
        CHECK.is("looks stay", x.rider(1, 3), 9);
        CHECK.stops(x, 5);
        CHECK.sound(x, "dealt from stop 0, whatever stop it is", x.dealt(1), 4);
        CHECK.is("shunned as told", x.shunned(1), 99);
        CHECK.refused(x, "dealt(3)", x.dealt(3), 1);
        CHECK.refused(x, "dealt(-1)", x.dealt(-1), 1);
        // Another bus on the same object.
        Check.tell(x, deal("").replace("looks 9", "looks 0"));
        CHECK.sound(x, "all alike", x.dealt(1), 6);
        CHECK.sound(x, "of another bus", x.dealt(0), 6);
        BusSeats y = CHECK.told(deal(" proud"));
        CHECK.refused(y, "dealt of who never sits", y.dealt(2), 5);
        CHECK.sound(y, "deals all the same", y.deals(), 6);
        // Proud C sits at the single seat unless it likes A's neighbour seat more: then it never sits.
        BusSeats z = CHECK.told("bus rows 1 form 1 door 0 pace 1 rise 1 sun left;rule k like;"
            + "rider a on 0 off 9 by k looks 0 age 50;rider c on 0 off 9 by k looks 9 age 50 proud;"
            + "rider d on 10 off 11 by k looks 1 age 50;holds a row 0 seat 3");
        CHECK.sound(z, "sits in four of six", z.dealt(1), 4);
        BusSeats n = new BusSeats();
        CHECK.refused(n, "deals of no bus", n.deals(), 1);
        CHECK.refused(n, "dealt of no bus", n.dealt(0), 1);
        moreRiders();
    }

    private static void moreRiders() {
        int[] due = {1, 1, 2, 6, 24, 120, 720};
        StringBuilder text = new StringBuilder("bus rows 5 form 0 door 0 pace 1 rise 1 sun left;rule k like,far");
        for (int i = 1; i <= 8; i++) {
            text.append(";rider ").append((char) ('a' + i)).append(" on ").append(i - 1).append(" off 11 by k looks ")
                .append(i % 10).append(" age 50");
            BusSeats x = CHECK.told(text.toString());
            if (i <= 6) {
                CHECK.sound(x, "deals of " + i, x.deals(), due[i]);
                CHECK.sound(x, "dealt of " + i, x.dealt(0) > 0 ? 1 : 0, 1);
            } else {
                CHECK.refused(x, "deals of " + i, x.deals(), 3);
                CHECK.refused(x, "dealt of " + i, x.dealt(0), 3);
                CHECK.refused(x, "dealt of none such", x.dealt(i), 1);
            }
        }
    }

    public static void main(String[] args) {
        films();
        otherWays();
        deals();
        CHECK.end();
    }
}
