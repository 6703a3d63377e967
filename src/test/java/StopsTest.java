/** Promises 6 to 19: stops, who is where, order, shunned, given, sorted, marks; term II. */
public final class StopsTest {
    private static final Check CHECK = new Check("StopsTest");

    private static final String KNEES = "bus rows 2 form 0 door 1 pace 2 rise 3 sun none;"
        + "rule w window,front;rule i aisle,front;"
        + "rider ann on 0 off 2 by w looks 1 age 50;rider bob on 0 off 3 by i looks 1 age 50;"
        + "rider cid on 0 off 3 by w looks 1 age 50;rider dot on 0 off 3 by i looks 1 age 50;"
        + "rider eve on 1 off 3 by w looks 1 age 50";

    private static void at(BusSeats x, int... due) {
        for (int r = 0; r < due.length; r++) {
            CHECK.sound(x, "at(" + r + ")", x.at(r), due[r]);
        }
    }

    private static void seconds() {
        BusSeats x = CHECK.told(KNEES);
        CHECK.refused(x, "seconds(0) ahead", x.seconds(0), 1);
        CHECK.sound(x, "stop 0", x.stop(), 0);
        CHECK.sound(x, "stop 1", x.stop(), 0);
        at(x, 0, 1, 3, 2, 4);
        // From the window past Bob's knees, one row from the door.
        CHECK.sound(x, "stop 2", x.stop(), 7);
        at(x, 102, 1, 3, 2, 4);
        // Dot gets off as well: no knees; Eve's row is the door's.
        CHECK.sound(x, "stop 3", x.stop(), 14);
        at(x, 102, 102, 102, 102, 102);
        CHECK.sound(x, "seconds(2)", x.seconds(2), 7);
        CHECK.sound(x, "seconds(3)", x.seconds(3), 14);
        CHECK.sound(x, "seconds(0)", x.seconds(0), 0);
        CHECK.refused(x, "seconds(4)", x.seconds(4), 1);
        CHECK.refused(x, "seconds(-1)", x.seconds(-1), 1);
        for (int s = 4; s < 12; s++) {
            CHECK.sound(x, "stop " + s, x.stop(), 0);
        }
        CHECK.refused(x, "stop 12", x.stop(), 6);
        CHECK.refused(x, "seconds(12)", x.seconds(12), 1);
        CHECK.sound(x, "seconds(11)", x.seconds(11), 0);
        CHECK.sound(x, "run behind all", x.run(), 0);
        BusSeats y = CHECK.told(KNEES);
        CHECK.sound(y, "run", y.run(), 21);
        CHECK.is("stops behind run", y.size(5), 12);
        CHECK.sound(y, "seconds behind run", y.seconds(2), 7);
        BusSeats z = CHECK.told(KNEES);
        CHECK.stops(z, 3);
        CHECK.sound(z, "the rest", z.run(), 14);
        BusSeats n = new BusSeats();
        CHECK.refused(n, "stop of no bus", n.stop(), 1);
        CHECK.refused(n, "run of no bus", n.run(), 1);
        CHECK.refused(n, "seconds of no bus", n.seconds(0), 1);
    }

    private static void noKnees() {
        // At a window that is at the aisle, too, nobody's knees are in the way; in form 1 on the right they are.
        BusSeats x = CHECK.told("bus rows 1 form 1 door 0 pace 5 rise 9 sun none;rule f front;"
            + "rider a on 0 off 1 by f looks 1 age 50;rider b on 0 off 2 by f looks 1 age 50;"
            + "rider c on 0 off 1 by f looks 1 age 50");
        CHECK.stops(x, 1);
        at(x, 0, 2, 3);
        CHECK.sound(x, "c past b", x.stop(), 19);
        // From the aisle seat nobody rises.
        BusSeats y = CHECK.told("bus rows 1 form 0 door 0 pace 5 rise 9 sun none;rule f front;"
            + "rider a on 0 off 2 by f looks 1 age 50;rider b on 0 off 1 by f looks 1 age 50");
        CHECK.stops(y, 1);
        CHECK.sound(y, "b from the aisle", y.stop(), 5);
        CHECK.sound(y, "a, nobody beside", y.stop(), 5);
    }

    private static final String CROWD = "bus rows 1 form 2 door 0 pace 2 rise 9 sun none;rule f front;"
        + "rider a on 0 off 2 by f looks 1 age 50;rider b on 0 off 4 by f looks 1 age 50;"
        + "rider c on 1 off 3 by f looks 1 age 50;rider d on 1 off 4 by f looks 1 age 50;"
        + "rider e on 1 off 3 by f looks 1 age 50";

    private static void standing() {
        BusSeats x = CHECK.told(CROWD);
        CHECK.sound(x, "standing ahead", x.standing(), 0);
        CHECK.sound(x, "free ahead", x.free(), 9);
        at(x, 100, 100, 100, 100, 100);
        CHECK.stops(x, 1);
        CHECK.sound(x, "free of none", x.free(), 0);
        CHECK.sound(x, "nobody gets off, none counts", x.stop(), 0);
        CHECK.sound(x, "standing", x.standing(), 4 + 8 + 16);
        at(x, 0, 3, 101, 101, 101);
        CHECK.is("led(0)", x.led(0), 2);
        CHECK.is("led(1)", x.led(1), 3);
        CHECK.is("led(2)", x.led(2), 4);
        CHECK.ledThrows(x, 3);
        CHECK.ledThrows(x, -1);
        // A's pace, and one for each of three who stand.
        CHECK.sound(x, "stop 2", x.stop(), 2 + 3);
        at(x, 102, 3, 0, 101, 101);
        // C from its seat, E from where it stands, and D stands on.
        CHECK.sound(x, "stop 3", x.stop(), 2 + 2 + 1);
        at(x, 102, 3, 102, 0, 102);
        CHECK.sound(x, "stop 4", x.stop(), 4);
        CHECK.sound(x, "standing behind", x.standing(), 0);
        CHECK.sound(x, "free behind", x.free(), 9);
        CHECK.refused(x, "at(-1)", x.at(-1), 1);
        CHECK.refused(x, "at(5)", x.at(5), 1);
        CHECK.refused(x, "sits(1)", x.sits(1), 1);
        CHECK.refused(x, "sits(4)", x.sits(4), 1);
        CHECK.refused(x, "sits(-1)", x.sits(-1), 1);
        CHECK.refused(x, "sits(100)", x.sits(100), 1);
        CHECK.refused(x, "bag(2)", x.bag(2), 1);
        CHECK.refused(x, "bag(35)", x.bag(35), 1);
        // Who stands pays one pace, however far the door is.
        BusSeats y = CHECK.told("bus rows 2 form 2 door 0 pace 3 rise 9 sun none;rule f front;"
            + "rider a on 0 off 9 by f looks 1 age 50;rider b on 0 off 9 by f looks 1 age 50;"
            + "rider c on 0 off 9 by f looks 1 age 50;rider d on 0 off 9 by f looks 1 age 50;"
            + "rider e on 0 off 1 by f looks 1 age 50");
        CHECK.stops(y, 1);
        CHECK.sound(y, "e who stands", y.stop(), 3);
        CHECK.stops(y, 7);
        CHECK.sound(y, "two rows", y.stop(), 3 + 3 + 6 + 6);
        BusSeats n = new BusSeats();
        CHECK.refused(n, "standing of no bus", n.standing(), 1);
        CHECK.refused(n, "free of no bus", n.free(), 1);
        CHECK.refused(n, "sits of no bus", n.sits(0), 1);
        CHECK.refused(n, "bag of no bus", n.bag(0), 1);
        CHECK.refused(n, "at of no bus", n.at(0), 1);
    }

    private static BusSeats giving(int ageA, int ageB, int ageC) {
        BusSeats x = CHECK.told("bus rows 1 form 2 door 0 pace 2 rise 9 sun none;rule f front;"
            + "rider a on 0 off 9 by f looks 1 age " + ageA + ";rider b on 0 off 9 by f looks 1 age " + ageB
            + ";rider c on 1 off 5 by f looks 1 age " + ageC);
        CHECK.stops(x, 2);
        CHECK.is("c stands where it comes on", x.at(2), 101);
        CHECK.sound(x, "given so far", x.given(), 0);
        CHECK.sound(x, "giving takes no time", x.stop(), 0);
        return x;
    }

    private static void given() {
        BusSeats x = giving(39, 20, 65);
        at(x, 0, 101, 3);
        CHECK.sound(x, "given", x.given(), 1);
        CHECK.sound(x, "order of the old", x.order(2), 3);
        CHECK.sound(x, "order of who gave", x.order(1), 2);
        CHECK.stops(x, 2);
        at(x, 0, 101, 3);
        CHECK.sound(x, "stop 5", x.stop(), 2 + 1);
        at(x, 0, 3, 102);
        CHECK.sound(x, "order anew", x.order(1), 4);
        CHECK.sound(x, "given stays", x.given(), 1);
        at(giving(40, 39, 65), 0, 101, 3);
        at(giving(40, 40, 99), 0, 3, 101);
        at(giving(20, 20, 99), 101, 3, 0);
        at(giving(0, 1, 64), 0, 3, 101);
        at(giving(19, 20, 70), 101, 3, 0);
        // Two old ones take both seats of the young, who don't give to one another nor choose at that stop.
        BusSeats y = CHECK.told("bus rows 1 form 2 door 0 pace 2 rise 9 sun none;rule f front;"
            + "rider a on 0 off 9 by f looks 1 age 10;rider b on 0 off 2 by f looks 1 age 50;"
            + "rider c on 1 off 5 by f looks 1 age 80;rider d on 1 off 5 by f looks 1 age 80");
        CHECK.stops(y, 2);
        CHECK.sound(y, "b gets off, two stand", y.stop(), 2 + 2);
        // C takes A's seat, though B's is free; A waits, so D takes B's.
        at(y, 101, 102, 0, 3);
        CHECK.is("one given", y.given(), 1);
        // Given ahead of choosing: D, old, too, gets A's seat only if somebody young sits.
        BusSeats z = CHECK.told("bus rows 1 form 0 door 0 pace 2 rise 0 sun none;rule f front;"
            + "rider a on 0 off 9 by f looks 1 age 10 bag;rider b on 0 off 9 by f looks 1 age 50 proud;"
            + "rider c on 0 off 9 by f looks 1 age 80 proud;rider d on 0 off 9 by f looks 1 age 81 proud");
        CHECK.stops(z, 1);
        at(z, 0, 2, 101, 101);
        CHECK.is("bag of a", z.bag(1), 0);
        CHECK.stops(z, 1);
        // A gives to C (proud or not) and takes its bag; D finds 1 beside C and stands, then A stands, too.
        at(z, 101, 2, 0, 101);
        CHECK.is("the bag went with a", z.bag(1), -2);
        CHECK.sound(z, "free", z.free(), 2 + 8);
        CHECK.stops(z, 1);
        at(z, 1, 2, 0, 101);
        CHECK.stops(z, 1);
        at(z, 101, 2, 0, 1);
        CHECK.is("two given", z.given(), 2);
        BusSeats n = new BusSeats();
        CHECK.refused(n, "given of no bus", n.given(), 1);
    }

    private static void bags() {
        BusSeats x = CHECK.told("bus rows 1 form 0 door 0 pace 1 rise 0 sun none;rule f front;"
            + "rider a on 0 off 4 by f looks 1 age 50 bag;rider b on 0 off 9 by f looks 1 age 50 bag;"
            + "rider c on 1 off 3 by f looks 1 age 50 bag;rider d on 2 off 5 by f looks 1 age 50;"
            + "rider e on 2 off 6 by f looks 1 age 50");
        CHECK.sound(x, "no bag yet", x.bag(1), -2);
        CHECK.stops(x, 1);
        at(x, 0, 2);
        CHECK.sound(x, "a's bag", x.bag(1), 0);
        CHECK.sound(x, "b's bag", x.bag(3), 1);
        CHECK.sound(x, "none where a sits", x.bag(0), -2);
        CHECK.sound(x, "nobody sits by a", x.sits(1), -2);
        CHECK.sound(x, "b sits", x.sits(2), 1);
        CHECK.sound(x, "no free one", x.free(), 0);
        CHECK.stops(x, 1);
        // A's bag is taken off; C has no seat beside for its own.
        at(x, 0, 2, 1);
        CHECK.sound(x, "a's bag is off", x.bag(1), -2);
        CHECK.sound(x, "b's bag stays", x.bag(3), 1);
        CHECK.stops(x, 1);
        at(x, 0, 2, 1, 3, 101);
        CHECK.sound(x, "b's bag is off", x.bag(3), -2);
        CHECK.stops(x, 1);
        // C is off, E sits by A; then A gets off, and nobody lays a bag later.
        at(x, 0, 2, 102, 3, 1);
        CHECK.stops(x, 2);
        at(x, 102, 2, 102, 102, 1);
        CHECK.sound(x, "b's bag is not laid again", x.bag(3), -2);
        CHECK.sound(x, "free behind", x.free(), 1 + 8);
        // Who gets off takes its bag.
        BusSeats y = CHECK.told("bus rows 1 form 1 door 0 pace 1 rise 0 sun none;rule f front;"
            + "rider a on 0 off 4 by f looks 1 age 50 bag;rider b on 0 off 2 by f looks 1 age 50 bag");
        CHECK.stops(y, 2);
        CHECK.is("no seat beside, no bag", y.free(), 0);
        CHECK.is("b's bag in form 1", y.bag(3), 1);
        CHECK.stops(y, 1);
        CHECK.is("b took it", y.free(), 4 + 8);
        // A seat whose bag somebody else laid is not free for a bag.
        BusSeats z = CHECK.told("bus rows 1 form 0 door 0 pace 1 rise 0 sun none;rule f front;rule i aisle;"
            + "rider a on 0 off 4 by f looks 1 age 50 bag;rider b on 0 off 4 by i looks 1 age 50;"
            + "rider c on 0 off 4 by f looks 1 age 50;rider d on 1 off 4 by f looks 1 age 50 bag");
        CHECK.stops(z, 1);
        at(z, 0, 2, 3, 100);
        CHECK.stops(z, 1);
        at(z, 0, 2, 3, 1);
        CHECK.is("d's bag nowhere", z.bag(0) + z.bag(1) + z.bag(2) + z.bag(3), -8);
    }

    private static void orderAndShunned() {
        BusSeats x = CHECK.told("bus rows 1 form 0 door 0 pace 1 rise 0 sun none;rule f front;rule w window;"
            + "rider a on 0 off 6 by w looks 1 age 30;rider b on 0 off 2 by w looks 1 age 50;"
            + "rider c on 1 off 3 by f looks 1 age 50;rider d on 4 off 9 by f looks 1 age 50;"
            + "rider e on 4 off 9 by f looks 1 age 50;rider g on 5 off 9 by f looks 1 age 70");
        CHECK.refused(x, "order ahead", x.order(0), 6);
        CHECK.refused(x, "shunned ahead", x.shunned(0), 6);
        CHECK.stops(x, 1);
        at(x, 0, 3);
        CHECK.sound(x, "order(0)", x.order(0), 1);
        CHECK.sound(x, "order(1)", x.order(1), 2);
        CHECK.sound(x, "shunned, nobody came", x.shunned(0), 99);
        CHECK.stops(x, 1);
        CHECK.is("c by a", x.at(2), 1);
        CHECK.sound(x, "shunned(0): b came ahead of c", x.shunned(0), 1);
        CHECK.sound(x, "shunned(1): none beside", x.shunned(1), 99);
        CHECK.sound(x, "shunned(2): it came itself", x.shunned(2), 99);
        CHECK.refused(x, "shunned(3)", x.shunned(3), 6);
        CHECK.stops(x, 3);
        // C is off; D sits by A, E in b's former row: only the first beside counts.
        at(x, 0, 102, 102, 1, 2);
        CHECK.sound(x, "shunned(0) stays", x.shunned(0), 1);
        CHECK.sound(x, "shunned(1) behind its ride", x.shunned(1), 99);
        CHECK.sound(x, "shunned(2) behind its ride", x.shunned(2), 99);
        CHECK.sound(x, "shunned(3)", x.shunned(3), 99);
        CHECK.sound(x, "shunned(4)", x.shunned(4), 99);
        CHECK.stops(x, 1);
        CHECK.is("g by e", x.at(5), 3);
        CHECK.sound(x, "shunned(4) by g", x.shunned(4), 0);
        CHECK.sound(x, "shunned(3) by none", x.shunned(3), 99);
        CHECK.sound(x, "order(5)", x.order(5), 6);
        CHECK.refused(x, "order(6)", x.order(6), 1);
        CHECK.refused(x, "order(-1)", x.order(-1), 1);
        CHECK.refused(x, "shunned(6)", x.shunned(6), 1);
        CHECK.refused(x, "shunned(-1)", x.shunned(-1), 1);
        BusSeats n = new BusSeats();
        CHECK.refused(n, "order of no bus", n.order(0), 1);
        CHECK.refused(n, "shunned of no bus", n.shunned(0), 1);
    }

    private static void shunnedAnew() {
        // A gives its seat up: what was counted stays; when it sits again it is counted anew.
        BusSeats x = CHECK.told("bus rows 1 form 0 door 0 pace 1 rise 0 sun none;rule f front;rule w window;"
            + "rider a on 0 off 9 by w looks 1 age 20;rider b on 0 off 3 by w looks 1 age 50;"
            + "rider c on 0 off 9 by f looks 1 age 50;rider d on 0 off 9 by f looks 1 age 50;"
            + "rider e on 1 off 9 by f looks 1 age 70;rider g on 3 off 4 by f looks 1 age 50");
        CHECK.stops(x, 1);
        at(x, 0, 3, 1, 2);
        CHECK.is("shunned(0)", x.shunned(0), 1);
        CHECK.is("shunned(1)", x.shunned(1), 1);
        CHECK.is("shunned(2), whom nobody joins", x.shunned(2), 99);
        CHECK.stops(x, 2);
        at(x, 101, 3, 1, 2, 0);
        CHECK.is("shunned(0) who stands", x.shunned(0), 1);
        CHECK.is("order(0) who stands", x.order(0), 1);
        // E came to sit beside C: D came ahead.
        CHECK.is("shunned(2) by e", x.shunned(2), 1);
        CHECK.is("shunned(4)", x.shunned(4), 99);
        CHECK.stops(x, 1);
        at(x, 3, 102, 1, 2, 0, 101);
        CHECK.is("shunned(0) anew", x.shunned(0), 99);
        CHECK.is("order(0) anew", x.order(0), 6);
        CHECK.is("shunned(3) by a", x.shunned(3), 1);
        // B passed A by in its first seat: that is forgotten when D joins A in its second one.
        BusSeats y = CHECK.told("bus rows 1 form 0 door 0 pace 1 rise 0 sun none;rule f front;rule w window;"
            + "rider a on 0 off 9 by w looks 1 age 20;rider b on 0 off 9 by w looks 1 age 50;"
            + "rider c on 0 off 3 by f looks 1 age 70 proud;rider d on 3 off 9 by f looks 1 age 50");
        CHECK.stops(y, 2);
        at(y, 101, 3, 0);
        CHECK.is("shunned(0) of its first seat", y.shunned(0), 99);
        CHECK.stops(y, 1);
        at(y, 1, 3, 0);
        CHECK.is("shunned(2) by a", y.shunned(2), 0);
        CHECK.stops(y, 1);
        at(y, 1, 3, 102, 0);
        CHECK.is("shunned(0) by d", y.shunned(0), 0);
    }

    /** A bus on an object that has had another one goes as on a new one. */
    private static void anotherBus() {
        String first = "bus rows 1 form 0 door 0 pace 9 rise 9 sun right;rule k like;rule s shade;rule n friend;"
            + "rider a on 0 off 9 by s looks 1 age 20 bag;rider b on 0 off 9 by s looks 1 age 50 proud;"
            + "rider c on 0 off 3 by k looks 1 age 70 proud;rider d on 0 off 9 by n looks 1 age 70 proud;friends a,d;"
            + "friends b,d;holds d row 0 seat 1";
        String second = "bus rows 2 form 0 door 0 pace 2 rise 3 sun left;rule k like,alone;rule s shade;rule n friend;"
            + "rider a on 0 off 5 by s looks 3 age 20;rider b on 0 off 9 by k looks 9 age 50;"
            + "rider c on 1 off 3 by s looks 5 age 70;rider d on 1 off 9 by n looks 1 age 70";
        BusSeats x = CHECK.told(first);
        CHECK.stops(x, 3);
        CHECK.is("given of the first", x.given(), 1);
        Check.tell(x, second);
        BusSeats y = CHECK.told(second);
        for (int s = 0; s < 12; s++) {
            CHECK.is("stop " + s, x.stop(), y.stop());
            CHECK.is("given", x.given(), y.given());
            CHECK.is("free", x.free(), y.free());
            CHECK.is("sorted", x.sorted(), y.sorted());
            for (int r = 0; r < 4; r++) {
                CHECK.is("at", x.at(r), y.at(r));
                CHECK.is("order", x.order(r), y.order(r));
                CHECK.is("shunned", x.shunned(r), y.shunned(r));
            }
        }
    }

    private static void sorted() {
        BusSeats x = CHECK.told(KNEES);
        CHECK.sound(x, "sorted of none", x.sorted(), 0);
        CHECK.stops(x, 1);
        // Bob, at the aisle, gets off behind Ann; Dot with Cid at once.
        CHECK.sound(x, "one so, one otherwise", x.sorted(), 0);
        CHECK.stops(x, 2);
        CHECK.sound(x, "one so", x.sorted(), 1);
        BusSeats y = CHECK.told("bus rows 1 form 1 door 0 pace 1 rise 0 sun none;rule f front;"
            + "rider a on 0 off 5 by f looks 1 age 50;rider b on 0 off 4 by f looks 1 age 50;"
            + "rider c on 0 off 3 by f looks 1 age 50");
        CHECK.stops(y, 1);
        CHECK.sound(y, "otherwise", y.sorted(), -1);
        BusSeats z = CHECK.told("bus rows 1 form 2 door 0 pace 1 rise 0 sun none;rule f front;"
            + "rider a on 0 off 5 by f looks 1 age 50;rider b on 0 off 4 by f looks 1 age 50");
        CHECK.stops(z, 1);
        CHECK.sound(z, "no pairs", z.sorted(), 0);
        BusSeats n = new BusSeats();
        CHECK.refused(n, "sorted of no bus", n.sorted(), -1000, 1);
    }

    private static void marks() {
        BusSeats x = CHECK.told(CROWD);
        CHECK.refused(x, "back of none", x.back(0) ? 1 : 0, 0, 1);
        CHECK.sound(x, "mark 0", x.mark(), 0);
        CHECK.stops(x, 2);
        CHECK.sound(x, "mark 1", x.mark(), 1);
        CHECK.is("marks", x.size(6), 2);
        x.run();
        CHECK.sound(x, "mark 2", x.mark(), 2);
        CHECK.sound(x, "back to 1", x.back(1) ? 1 : 0, 1);
        CHECK.is("stops", x.size(5), 2);
        at(x, 0, 3, 101, 101, 101);
        CHECK.refused(x, "seconds that have not been", x.seconds(2), 1);
        CHECK.sound(x, "from there on", x.stop(), 5);
        CHECK.sound(x, "orders go on", x.order(2), 3);
        CHECK.sound(x, "back to 0", x.back(0) ? 1 : 0, 1);
        at(x, 100, 100, 100, 100, 100);
        CHECK.refused(x, "no order by 0", x.order(0), 6);
        CHECK.is("all marks stay", x.size(6), 3);
        CHECK.sound(x, "mark 3", x.mark(), 3);
        CHECK.refused(x, "mark 4", x.mark(), 3);
        CHECK.sound(x, "back to 2", x.back(2) ? 1 : 0, 1);
        CHECK.refused(x, "stop behind all", x.stop(), 6);
        CHECK.sound(x, "seconds of 3", x.seconds(3), 5);
        CHECK.sound(x, "back to 1 again", x.back(1) ? 1 : 0, 1);
        at(x, 0, 3, 101, 101, 101);
        CHECK.refused(x, "back(4)", x.back(4) ? 1 : 0, 0, 1);
        CHECK.refused(x, "back(-1)", x.back(-1) ? 1 : 0, 0, 1);
        BusSeats n = new BusSeats();
        CHECK.refused(n, "mark of no bus", n.mark(), 1);
        CHECK.refused(n, "back of no bus", n.back(0) ? 1 : 0, 0, 1);
        marksKeepAll();
    }

    private static void marksKeepAll() {
        // Bags, gifts and what was counted of being shunned come back, too; films are no part of it.
        BusSeats x = CHECK.told("bus rows 1 form 0 door 0 pace 1 rise 0 sun none;rule f front;rule w window;"
            + "rider a on 0 off 9 by w looks 1 age 20 bag;rider b on 1 off 9 by w looks 1 age 50;"
            + "rider c on 1 off 9 by f looks 1 age 50;rider d on 2 off 9 by f looks 1 age 70;"
            + "rider e on 2 off 9 by f looks 1 age 71");
        CHECK.stops(x, 1);
        x.film(0, 0);
        x.mark();
        x.film(1, 2);
        CHECK.stops(x, 3);
        CHECK.is("given", x.given(), 1);
        CHECK.is("a gave", x.at(0), 101);
        CHECK.is("d joined a", x.shunned(0), 2);
        x.mark();
        x.back(0);
        CHECK.is("none given", x.given(), 0);
        CHECK.is("a's bag", x.bag(1), 0);
        CHECK.is("a sits", x.sits(0), 0);
        CHECK.is("nobody else", x.free(), 4 + 8);
        CHECK.is("nobody came", x.shunned(0), 99);
        CHECK.is("films stay", x.size(7), 2);
        CHECK.stops(x, 1);
        CHECK.is("b", x.at(1), 3);
        CHECK.is("order of b", x.order(1), 2);
        x.back(1);
        CHECK.is("given by 1", x.given(), 1);
        CHECK.is("shunned by 1", x.shunned(0), 2);
        CHECK.is("no bag by 1", x.bag(1), -2);
    }

    public static void main(String[] args) {
        seconds();
        noKnees();
        standing();
        given();
        bags();
        orderAndShunned();
        shunnedAnew();
        anotherBus();
        sorted();
        marks();
        CHECK.end();
    }
}
