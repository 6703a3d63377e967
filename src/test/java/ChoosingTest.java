/** Promises 20 to 25: choice, ties, odds, ways, monday, doorway; terms II and III. */
public final class ChoosingTest {
    private static final Check CHECK = new Check("ChoosingTest");
    private static final long LOT = 27720;

    /** A bus of two rows where Ann (looks 4) sits in a seat and Quin (looks q) is to come, by some ways. */
    private static BusSeats withAnn(int form, String sun, int seat, String ways, int looks, String more) {
        BusSeats x = CHECK.told("bus rows 2 form " + form + " door 0 pace 1 rise 1 sun " + sun + ";rule h front;rule r "
            + ways + ";rider ann on 0 off 11 by h looks 4 age 50;rider quin on 5 off 6 by r looks " + looks + " age 50"
            + more + ";holds ann row " + seat / 4 + " seat " + seat % 4);
        CHECK.stops(x, 1);
        CHECK.is("ann", x.at(0), seat);
        return x;
    }

    private static void chooses(BusSeats x, String what, int seat, int ties) {
        CHECK.sound(x, "choice by " + what, x.choice(1), seat);
        CHECK.sound(x, "ties by " + what, x.ties(1), ties);
    }

    private static void way(String ways, int seat, int ties) {
        chooses(withAnn(0, "left", 1, ways, 5, ""), ways, seat, ties);
    }

    private static void ways() {
        way("alone", 2, 6);
        way("far", 7, 1);
        way("window", 0, 4);
        way("aisle", 2, 3);
        way("front", 0, 3);
        way("back", 4, 4);
        way("shade", 2, 4);
        way("like", 0, 1);
        way("friend", 0, 7);
        way("window,back", 4, 2);
        way("back,window", 4, 2);
        way("alone,window", 3, 3);
        way("window,alone,shade,back", 7, 1);
        way("front,shade,aisle", 2, 1);
        chooses(withAnn(0, "right", 1, "shade", 5, ""), "shade of the right", 0, 3);
        chooses(withAnn(0, "none", 1, "shade", 5, ""), "shade of none", 0, 7);
        chooses(withAnn(0, "none", 1, "like", 9, ""), "like, apart as nobody", 0, 7);
        chooses(withAnn(0, "none", 1, "like", 8, ""), "like, a little nearer", 0, 1);
        chooses(withAnn(0, "none", 1, "like", 0, ""), "like, the other way", 0, 1);
        chooses(withAnn(0, "none", 7, "like", 4, ""), "like on the right", 6, 1);
        chooses(withAnn(0, "none", 1, "friend", 0, ";friends ann,quin"), "friend", 0, 1);
        chooses(withAnn(0, "none", 6, "friend", 0, ";friends quin,ann"), "friend on the right", 7, 1);
        chooses(withAnn(0, "none", 4, "far", 0, ""), "far from row 1", 3, 1);
        chooses(withAnn(0, "none", 3, "far,front", 0, ""), "far from the right window", 4, 1);
        forms();
    }

    private static void forms() {
        chooses(withAnn(1, "none", 2, "aisle", 5, ""), "aisle in form 1", 0, 3);
        chooses(withAnn(2, "none", 0, "aisle", 5, ""), "aisle in form 2", 3, 3);
        chooses(withAnn(1, "none", 0, "alone", 5, ""), "alone in form 1", 2, 5);
        chooses(withAnn(1, "none", 2, "alone", 5, ""), "alone by the right", 0, 4);
        chooses(withAnn(2, "none", 0, "window", 5, ""), "window in form 2", 3, 3);
        chooses(withAnn(1, "none", 0, "window", 5, ""), "window in form 1", 3, 3);
        // Far with nobody on: all alike.
        BusSeats x = CHECK.told("bus rows 5 form 0 door 0 pace 1 rise 1 sun none;rule r far;"
            + "rider a on 0 off 1 by r looks 0 age 0;rider b on 0 off 1 by r looks 0 age 0");
        chooses(x, "far, ahead", 0, 20);
        CHECK.stops(x, 1);
        CHECK.is("b as far as can be", x.at(1), 19);
        // Looks six apart are worse than nobody.
        BusSeats y = CHECK.told("bus rows 1 form 0 door 0 pace 1 rise 1 sun none;rule r like;"
            + "rider a on 0 off 9 by r looks 3 age 0;rider b on 1 off 9 by r looks 9 age 0");
        CHECK.stops(y, 1);
        chooses(y, "like, six apart", 2, 2);
    }

    private static final String HELD = "bus rows 1 form 0 door 0 pace 1 rise 1 sun none;rule r front;"
        + "rider a on 0 off 2 by r looks 0 age 50;rider b on 1 off 11 by r looks 0 age 50 proud;"
        + "rider c on 1 off 11 by r looks 0 age 50;rider d on 2 off 11 by r looks 0 age 50 proud;holds a row 0 seat 1;"
        + "holds b row 0 seat 0;holds c row 0 seat 0;holds d row 1 seat 0";

    private static void holdsAndProud() {
        BusSeats x = CHECK.told(HELD);
        CHECK.sound(x, "choice(0)", x.choice(0), 1);
        CHECK.sound(x, "ties(0)", x.ties(0), 1);
        CHECK.sound(x, "choice(3), who holds none that is", x.choice(3), 0);
        CHECK.sound(x, "ties(3)", x.ties(3), 4);
        CHECK.stops(x, 1);
        CHECK.refused(x, "choice of who sits", x.choice(0), 5);
        CHECK.refused(x, "ties of who sits", x.ties(0), 5);
        // Proud, but it is B's own seat; D's first best has somebody beside.
        CHECK.sound(x, "choice(1)", x.choice(1), 0);
        CHECK.sound(x, "choice(3) by a", x.choice(3), -2);
        CHECK.sound(x, "ties(3) by a", x.ties(3), 0);
        CHECK.stops(x, 1);
        CHECK.is("b in its own", x.at(1), 0);
        CHECK.is("c, whose seat is taken", x.at(2), 2);
        CHECK.sound(x, "choice(3) by c", x.choice(3), -2);
        CHECK.stops(x, 1);
        CHECK.is("d stands rather", x.at(3), 101);
        CHECK.sound(x, "choice of who stands", x.choice(3), -2);
        CHECK.refused(x, "choice of who is off", x.choice(0), 5);
        CHECK.refused(x, "ties of who is off", x.ties(0), 5);
        CHECK.refused(x, "choice(4)", x.choice(4), 1);
        CHECK.refused(x, "choice(-1)", x.choice(-1), 1);
        CHECK.refused(x, "ties(4)", x.ties(4), 1);
        CHECK.refused(x, "ties(-1)", x.ties(-1), 1);
        BusSeats n = new BusSeats();
        CHECK.refused(n, "choice of no bus", n.choice(0), 1);
        CHECK.refused(n, "ties of no bus", n.ties(0), 1);
        bagSeats();
    }

    private static void bagSeats() {
        // No seat is free: of those with a bag; a held one with a bag is not free, but it is held.
        BusSeats x = CHECK.told("bus rows 1 form 0 door 0 pace 1 rise 1 sun none;rule f front;rule w window;"
            + "rider a on 0 off 11 by f looks 0 age 50 bag;rider b on 0 off 11 by f looks 0 age 50 bag;"
            + "rider c on 5 off 11 by w looks 0 age 50;rider d on 5 off 11 by f looks 0 age 50 proud;"
            + "rider e on 5 off 11 by f looks 0 age 50 proud;rider g on 5 off 11 by f looks 0 age 50;"
            + "holds d row 0 seat 1;holds g row 0 seat 3");
        CHECK.stops(x, 1);
        CHECK.is("no free one", x.free(), 0);
        CHECK.sound(x, "window with a bag", x.choice(2), 3);
        CHECK.sound(x, "ties of it", x.ties(2), 1);
        CHECK.sound(x, "proud, its own seat with a bag", x.choice(3), 1);
        CHECK.sound(x, "ties of that", x.ties(3), 2);
        CHECK.sound(x, "proud, not its own", x.choice(4), -2);
        CHECK.sound(x, "its own has a bag: by its ways", x.choice(5), 1);
        CHECK.stops(x, 5);
        CHECK.is("c took b's bag off", x.at(2), 3);
        CHECK.is("d took a's bag off", x.at(3), 1);
        CHECK.is("e stands", x.at(4), 101);
        CHECK.is("g stands, there is none", x.at(5), 101);
        CHECK.sound(x, "none to choose", x.choice(5), -2);
        CHECK.sound(x, "no ties", x.ties(5), 0);
    }

    private static void odds() {
        BusSeats x = CHECK.told("bus rows 5 form 0 door 0 pace 1 rise 1 sun none;rule r friend;"
            + "rider a on 0 off 1 by r looks 0 age 0");
        CHECK.sound(x, "ways of one", x.ways(), LOT);
        CHECK.sound(x, "odds of 0", x.odds(0, 0), LOT / 12);
        CHECK.sound(x, "odds of 11", x.odds(0, 11), LOT / 12);
        CHECK.sound(x, "odds of 12", x.odds(0, 12), 0);
        CHECK.sound(x, "ties, all of them", x.ties(0), 20);
        CHECK.stops(x, 1);
        CHECK.sound(x, "ways of none", x.ways(), 1);
        CHECK.refused(x, "odds of who sits", x.odds(0, 0), 5);
        x.run();
        CHECK.refused(x, "ways behind all", x.ways(), 6);
        CHECK.refused(x, "odds behind all", x.odds(0, 0), 5);
        BusSeats n = new BusSeats();
        CHECK.refused(n, "odds of no bus", n.odds(0, 0), 1);
        CHECK.refused(n, "ways of no bus", n.ways(), 1);
        fewSeats();
        oddsByOthers();
        oddsOfTheProud();
        oddsOfTheProudTogether();
        tooMany();
    }

    private static void fewSeats() {
        // Two seats for three: the third stands, proud or not; the fourth comes later.
        BusSeats x = CHECK.told("bus rows 1 form 2 door 0 pace 1 rise 1 sun none;rule r friend;"
            + "rider a on 0 off 5 by r looks 0 age 50;rider b on 0 off 5 by r looks 0 age 50 proud;"
            + "rider c on 0 off 5 by r looks 0 age 50;rider d on 1 off 5 by r looks 0 age 50");
        CHECK.sound(x, "ways of three", x.ways(), LOT * LOT * LOT);
        CHECK.sound(x, "odds(0, 3)", x.odds(0, 3), LOT / 2 * LOT * LOT);
        CHECK.sound(x, "odds(1, 0)", x.odds(1, 0), LOT / 2 * LOT * LOT);
        CHECK.sound(x, "odds(2, 0)", x.odds(2, 0), 0);
        CHECK.refused(x, "odds(3, 0)", x.odds(3, 0), 5);
        CHECK.refused(x, "odds(4, 0)", x.odds(4, 0), 1);
        CHECK.refused(x, "odds(-1, 0)", x.odds(-1, 0), 1);
        CHECK.refused(x, "odds(0, 1)", x.odds(0, 1), 1);
        CHECK.refused(x, "odds(0, 4)", x.odds(0, 4), 1);
        CHECK.refused(x, "odds(0, -1)", x.odds(0, -1), 1);
        CHECK.is("nobody is on by asking", x.at(0), 100);
        CHECK.is("all is free by asking", x.free(), 9);
    }

    private static void oddsByOthers() {
        // Zoe gets off first, so that Ann and all behind her find her seat free.
        BusSeats x = CHECK.told("bus rows 1 form 0 door 0 pace 1 rise 1 sun none;rule f front;rule a aisle;rule k like;"
            + "rider zoe on 0 off 1 by f looks 0 age 50;rider yan on 0 off 5 by f looks 9 age 50;"
            + "rider ann on 1 off 5 by f looks 3 age 50 bag;rider ben on 1 off 5 by k looks 8 age 50;"
            + "rider cid on 1 off 5 by f looks 8 age 50;rider dot on 1 off 5 by f looks 8 age 50");
        CHECK.stops(x, 1);
        CHECK.is("yan", x.at(1), 1);
        CHECK.sound(x, "ways of four", x.ways(), LOT * LOT * LOT * LOT);
        long lots = LOT * LOT * LOT;
        for (int s = 0; s < 4; s++) {
            CHECK.sound(x, "odds of ann in " + s, x.odds(2, s), s == 1 ? 0 : LOT / 3 * lots);
        }
        // Ann in 0 (no room for a bag): Ben likes none of 2, 3 more: half each. Ann in 2 or 3, bag beside: 0 by Yan.
        CHECK.sound(x, "odds of ben in 0", x.odds(3, 0), 2 * (LOT / 3) * LOT * LOT * LOT);
        CHECK.sound(x, "odds of ben in 2", x.odds(3, 2), LOT / 3 * (LOT / 2) * LOT * LOT);
        CHECK.sound(x, "odds of ben in 3", x.odds(3, 3), LOT / 3 * (LOT / 2) * LOT * LOT);
        // Cid: what is left is one seat, or Ann's bag's.
        CHECK.sound(x, "odds of cid in 0", x.odds(4, 0), 0);
        CHECK.sound(x, "odds of cid in 2", x.odds(4, 2), (LOT / 3 * (LOT / 2) + LOT / 3 * LOT) * LOT * LOT);
        CHECK.sound(x, "odds of cid in 3", x.odds(4, 3), (LOT / 3 * (LOT / 2) + LOT / 3 * LOT) * LOT * LOT);
        for (int s = 0; s < 4; s++) {
            CHECK.sound(x, "odds of dot, who stands, in " + s, x.odds(5, s), 0);
        }
        CHECK.is("zoe is on still", x.at(0), 0);
    }

    private static void oddsOfTheProud() {
        // Seat 0 is Ann's: by the first of 1, 2, 3 Bo stands, and Cy behind him has all three as if he had not come.
        String text = "bus rows 1 form 0 door 0 pace 1 rise 0 sun none;rule f front;"
            + "rider ann on 0 off 9 by f looks 0 age 50;rider bo on 1 off 9 by f looks 0 age 50 proud;"
            + "rider cy on 1 off 9 by f looks 0 age 50";
        BusSeats x = CHECK.told(text);
        CHECK.stops(x, 1);
        CHECK.sound(x, "ties of bo", x.ties(1), 0);
        CHECK.sound(x, "ways of bo and cy", x.ways(), LOT * LOT);
        for (int s = 0; s < 4; s++) {
            CHECK.sound(x, "odds of bo, who stands, in " + s, x.odds(1, s), 0);
            CHECK.sound(x, "odds of cy behind bo in " + s, x.odds(2, s), s == 0 ? 0 : LOT * (LOT / 3));
        }
        // The seat beside Ann is his own: there he sits.
        BusSeats y = CHECK.told(text + ";holds bo row 0 seat 1");
        CHECK.stops(y, 1);
        for (int s = 0; s < 4; s++) {
            CHECK.sound(y, "odds of bo in his own, " + s, y.odds(1, s), s == 1 ? LOT * LOT : 0);
            CHECK.sound(y, "odds of cy by then in " + s, y.odds(2, s), s < 2 ? 0 : LOT * (LOT / 2));
        }
        // Ann in 3: nobody is beside the first, 0; then he sits in 2 by Ann as often, proud or not.
        BusSeats z = CHECK.told(text + ";holds ann row 0 seat 3");
        CHECK.stops(z, 1);
        CHECK.sound(z, "ties of bo, ann in 3", z.ties(1), 3);
        for (int s = 0; s < 4; s++) {
            CHECK.sound(z, "odds of bo, ann in 3, in " + s, z.odds(1, s), s == 3 ? 0 : LOT / 3 * LOT);
        }
    }

    private static void oddsOfTheProudTogether() {
        // Ann in 0 or 1: Bo stands; Ann in 2 or 3: he sits in each of the other three.
        BusSeats x = CHECK.told("bus rows 1 form 0 door 0 pace 1 rise 0 sun none;rule f front;"
            + "rider ann on 0 off 9 by f looks 0 age 50;rider bo on 0 off 9 by f looks 0 age 50 proud;"
            + "rider cy on 0 off 9 by f looks 0 age 50");
        CHECK.sound(x, "ties of bo ahead of all", x.ties(1), 4);
        for (int s = 0; s < 4; s++) {
            CHECK.sound(x, "ann in " + s, x.odds(0, s), LOT / 4 * LOT * LOT);
            CHECK.sound(x, "bo by ann in " + s, x.odds(1, s), (s < 2 ? 2 : 1) * (LOT / 4) * (LOT / 3) * LOT);
            CHECK.sound(x, "cy by both in " + s, x.odds(2, s), LOT / 4 * LOT * LOT);
        }
        // Only a bag's seat is left, beside its owner: the proud one stands, who comes on behind takes it.
        BusSeats y = CHECK.told("bus rows 1 form 1 door 0 pace 1 rise 0 sun none;rule f front;"
            + "rider ann on 0 off 9 by f looks 0 age 50;rider dee on 0 off 9 by f looks 0 age 50 bag;"
            + "rider bo on 1 off 9 by f looks 0 age 50 proud;rider cy on 1 off 9 by f looks 0 age 50");
        CHECK.stops(y, 1);
        CHECK.is("dee's bag", y.bag(3), 1);
        CHECK.sound(y, "bo by the bag", y.odds(2, 3), 0);
        CHECK.sound(y, "cy takes it off", y.odds(3, 3), LOT * LOT);
        CHECK.is("the bag lies there still", y.bag(3), 1);
    }

    private static void tooMany() {
        StringBuilder text = new StringBuilder("bus rows 1 form 2 door 0 pace 1 rise 1 sun none;rule r friend");
        for (char c = 'a'; c <= 'e'; c++) {
            text.append(";rider ").append(c).append(" on 1 off 5 by r looks 0 age 50");
        }
        BusSeats x = CHECK.told(text + ";rider g on 0 off 11 by r looks 0 age 50");
        CHECK.refused(x, "odds of one too late", x.odds(0, 0), 5);
        CHECK.sound(x, "odds of one", x.odds(5, 3), LOT / 2);
        CHECK.stops(x, 1);
        CHECK.refused(x, "ways of five", x.ways(), 3);
        CHECK.refused(x, "odds of five", x.odds(0, 0), 3);
        CHECK.refused(x, "odds of five and of who sits", x.odds(5, 0), 3);
        CHECK.refused(x, "odds of five in no seat", x.odds(0, 1), 1);
        // The last of four: its odds among what three have left.
        BusSeats y = CHECK.told(text.substring(0, text.indexOf(";rider e")).replace("form 2", "form 0"));
        CHECK.stops(y, 1);
        for (int r = 0; r < 4; r++) {
            for (int s = 0; s < 4; s++) {
                CHECK.sound(y, "a quarter each, " + r + " in " + s, y.odds(r, s), LOT / 4 * LOT * LOT * LOT);
            }
        }
    }

    private static void monday() {
        // A 0 (window, front), B 3 (the same), C 1 (aisle), D 2 (aisle), E 4 (back, with its bag in 5).
        BusSeats x = CHECK.told("bus rows 2 form 0 door 0 pace 1 rise 1 sun none;rule w window,front;rule i aisle,front;"
            + "rule k back;rider a on 0 off 9 by w looks 0 age 50;rider b on 0 off 9 by w looks 0 age 50;"
            + "rider c on 0 off 9 by i looks 0 age 50;rider d on 0 off 9 by i looks 0 age 50;"
            + "rider e on 0 off 9 by k looks 0 age 50 bag;holds a row 0 seat 0");
        CHECK.sound(x, "monday on an empty bus", x.monday(0), 0);
        CHECK.stops(x, 1);
        // A takes 3, B is driven and takes 4, E is driven and takes 5, its bag of no matter.
        CHECK.sound(x, "monday(0)", x.monday(0), 3);
        CHECK.sound(x, "monday(3)", x.monday(3), 3);
        // C takes 2, D then 5, where nobody sits.
        CHECK.sound(x, "monday(1)", x.monday(1), 2);
        CHECK.sound(x, "monday(4)", x.monday(4), 1);
        CHECK.sound(x, "monday(5), a bag's", x.monday(5), 0);
        CHECK.sound(x, "monday(7)", x.monday(7), 0);
        CHECK.is("nobody moved", x.at(0), 0);
        CHECK.refused(x, "monday(8)", x.monday(8), 1);
        CHECK.refused(x, "monday(-1)", x.monday(-1), 1);
        BusSeats n = new BusSeats();
        CHECK.refused(n, "monday of no bus", n.monday(0), 1);
        // None is left at last.
        BusSeats y = CHECK.told("bus rows 1 form 2 door 0 pace 1 rise 1 sun none;rule w window;"
            + "rider a on 0 off 9 by w looks 0 age 50;rider b on 0 off 9 by w looks 0 age 50");
        CHECK.stops(y, 1);
        CHECK.sound(y, "both driven", y.monday(0), 2);
        CHECK.refused(y, "monday(1) of form 2", y.monday(1), 1);
        byWhoSits();
    }

    private static void byWhoSits() {
        BusSeats x = CHECK.told("bus rows 2 form 0 door 0 pace 1 rise 1 sun none;rule k like;rule f friend;rule o far;"
            + "rider a on 0 off 9 by k looks 5 age 50;rider b on 0 off 9 by o looks 9 age 50;"
            + "rider c on 0 off 9 by f looks 5 age 50;friends c,b;holds a row 0 seat 0;holds b row 0 seat 1;"
            + "holds c row 1 seat 0");
        CHECK.stops(x, 1);
        // A: 1 is by the new one, apart by 0 (as 5 by C, behind it); B, driven from there, takes 7, the farthest.
        CHECK.sound(x, "like and far", x.monday(0), 2);
        // B: far from the new one, A and C: 7.
        CHECK.sound(x, "far alone", x.monday(1), 1);
        // C: by its friend B is 0, where A sits; A by C is 1, ahead of 5 by the new one; B takes 7.
        CHECK.sound(x, "friend, like, far", x.monday(4), 3);
        // A takes 2 in the shade; B, driven, follows its friend to 3 rather than to 1; C takes 1.
        BusSeats y = CHECK.told("bus rows 1 form 0 door 0 pace 1 rise 1 sun left;rule s shade;rule f friend;"
            + "rider a on 0 off 9 by s looks 5 age 50;rider b on 0 off 9 by f looks 9 age 50;"
            + "rider c on 0 off 9 by f looks 5 age 50;friends a,b;holds a row 0 seat 0;holds b row 0 seat 2;"
            + "holds c row 0 seat 3");
        CHECK.stops(y, 1);
        CHECK.sound(y, "by who sits there by then", y.monday(0), 3);
    }

    private static void doorway() {
        CHECK.is("both by the door", rests(2, 2, 9, 1, 1), 1);
        // pace 1, rows 1: within 2 and rise; off 3 and 4 of stop 2 on: 2 and 3 by the door.
        CHECK.is("rise 0", rests(1, 0, 3, 3, 0), 8 | 2 | 4);
        CHECK.is("rise 1", rests(1, 1, 3, 4, 0), 2 | 4);
        CHECK.is("rise 2", rests(1, 2, 3, 4, 0), 1 | 2);
        CHECK.is("rise 3", rests(1, 3, 3, 4, 0), 1);
        CHECK.is("late ones", rests(1, 0, 11, 11, 0), 8);
        CHECK.is("one late", rests(1, 0, 3, 11, 0), 2 | 8);
        BusSeats x = crowd(1, 1, 3, 4);
        CHECK.refused(x, "one twice", x.doorway(2, 2), 1);
        CHECK.refused(x, "none such", x.doorway(2, 4), 1);
        CHECK.refused(x, "none such ahead", x.doorway(-1, 2), 1);
        CHECK.refused(x, "one sits", x.doorway(2, 0), 5);
        CHECK.refused(x, "the first sits", x.doorway(1, 3), 5);
        BusSeats n = new BusSeats();
        CHECK.refused(n, "doorway of no bus", n.doorway(0, 1), 1);
    }

    private static BusSeats crowd(int pace, int rise, int offA, int offB) {
        BusSeats x = CHECK.told("bus rows 1 form 2 door 0 pace " + pace + " rise " + rise + " sun none;rule w window;"
            + "rider y on 0 off 11 by w looks 0 age 50;rider z on 0 off 11 by w looks 0 age 50;"
            + "rider a on 0 off " + offA + " by w looks 0 age 50;rider b on 0 off " + offB + " by w looks 0 age 50");
        CHECK.stops(x, 2);
        return x;
    }

    /** Rests of two who stand ahead of stop 2, or of the stop before the first of them gets off. */
    private static int rests(int pace, int rise, int offA, int offB, int late) {
        BusSeats x = crowd(pace, rise, late == 0 ? offA : 3, late == 0 ? offB : 3);
        CHECK.stops(x, late);
        int there = x.doorway(2, 3);
        CHECK.is("trouble behind doorway", x.trouble(), 0);
        int other = x.doorway(3, 2);
        CHECK.is("the other way round", other, there & 9 | (there & 2) << 1 | (there & 4) >> 1);
        return there;
    }

    public static void main(String[] args) {
        ways();
        holdsAndProud();
        odds();
        monday();
        doorway();
        CHECK.end();
    }
}
