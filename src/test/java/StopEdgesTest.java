/** Stops at their edges: every seat and row, as many riders as there may be, the first and the last stop; term II. */
public final class StopEdgesTest {
    private static final Check CHECK = new Check("StopEdgesTest");
    private static final String[] THERE = {"1111", "1011", "1001"};
    private static final String[] EIGHT = {"a", "b", "c", "d", "e", "g", "h", "i"};

    private static void at(BusSeats x, int... due) {
        for (int r = 0; r < due.length; r++) {
            CHECK.sound(x, "at(" + r + ")", x.at(r), due[r]);
        }
    }

    private static String bus(int rows, int form, int door, int pace, int rise) {
        return "bus rows " + rows + " form " + form + " door " + door + " pace " + pace + " rise " + rise + " sun none";
    }

    private static String rider(String name, int on, int off, String rule, int age, String more) {
        return ";rider " + name + " on " + on + " off " + off + " by " + rule + " looks 1 age " + age + more;
    }

    private static String holds(String name, int seat) {
        return ";holds " + name + " row " + seat / 4 + " seat " + seat % 4;
    }

    /** How long each seat of each form takes from each door: alone, by one who stays, by one who gets off as well. */
    private static void everySeat() {
        for (int form = 0; form < 3; form++) {
            for (int seat = 0; seat < 20; seat++) {
                if (THERE[form].charAt(seat % 4) == '1') {
                    for (int door = 0; door < 5; door++) {
                        secondsFrom(form, seat, door);
                    }
                }
            }
        }
    }

    private static void secondsFrom(int form, int seat, int door) {
        int k = seat % 4;
        int walk = 7 * (1 + Math.abs(seat / 4 - door));
        boolean shutIn = form == 0 && (k == 0 || k == 3) || form == 1 && k == 3;
        boolean paired = form == 0 || form == 1 && k > 1;
        String ahead = bus(5, form, door, 7, 5) + ";rule f front" + rider("a", 0, 1, "f", 50, "");
        String name = " from " + seat + " in form " + form + " to door " + door;
        BusSeats one = CHECK.told(ahead + holds("a", seat));
        CHECK.stops(one, 1);
        CHECK.is("a" + name, one.at(0), seat);
        CHECK.sound(one, "alone" + name, one.stop(), walk);
        if (paired) {
            BusSeats two = CHECK.told(ahead + rider("b", 0, 2, "f", 50, "") + holds("a", seat) + holds("b", seat ^ 1));
            CHECK.stops(two, 1);
            CHECK.is("b beside", two.at(1), seat ^ 1);
            CHECK.sound(two, "by one who stays" + name, two.stop(), walk + (shutIn ? 5 : 0));
            BusSeats both = CHECK.told(ahead + rider("b", 0, 1, "f", 50, "") + holds("a", seat) + holds("b", seat ^ 1));
            CHECK.stops(both, 1);
            CHECK.sound(both, "both at once" + name, both.stop(), 2 * walk);
        }
    }

    /** The pair of every two seats beside each other, the one at the aisle getting off sooner, at once, later. */
    private static void everyPair() {
        for (int form = 0; form < 2; form++) {
            for (int seat = 0; seat < 20; seat++) {
                boolean window = seat % 4 == 3 || form == 0 && seat % 4 == 0;
                for (int off = 4; window && off <= 6; off++) {
                    BusSeats x = CHECK.told(bus(5, form, 0, 1, 0) + ";rule f front" + rider("a", 0, 5, "f", 50, "")
                        + rider("b", 0, off, "f", 50, "") + holds("a", seat) + holds("b", seat ^ 1));
                    CHECK.stops(x, 1);
                    CHECK.sound(x, "sorted at " + seat + " in form " + form + ", 5 and " + off, x.sorted(),
                        off <= 5 ? 1 : -1);
                }
            }
        }
        // Across the aisle nobody is a pair, nor from row to row.
        BusSeats y = CHECK.told(bus(5, 0, 0, 1, 0) + ";rule f front" + rider("a", 0, 5, "f", 50, "")
            + rider("b", 0, 5, "f", 50, "") + rider("c", 0, 5, "f", 50, "") + rider("d", 0, 5, "f", 50, "")
            + holds("a", 1) + holds("b", 2) + holds("c", 4) + holds("d", 7));
        CHECK.stops(y, 1);
        CHECK.sound(y, "no pairs", y.sorted(), 0);
    }

    /** The utmost of SORTED: four pairs so, four otherwise. */
    private static void mostPairs() {
        for (int sooner = 0; sooner < 2; sooner++) {
            StringBuilder text = new StringBuilder(bus(2, 0, 0, 1, 0) + ";rule f front");
            for (int s = 0; s < 8; s++) {
                boolean window = s % 4 == 0 || s % 4 == 3;
                text.append(rider(EIGHT[s], 0, window == (sooner == 1) ? 9 : 8, "f", 50, ""));
            }
            BusSeats x = CHECK.told(text.toString());
            CHECK.stops(x, 1);
            CHECK.sound(x, "four pairs", x.sorted(), sooner == 1 ? 4 : -4);
        }
    }

    /** Eight riders fill eight seats and get off one by one. */
    private static void eightRiders() {
        StringBuilder text = new StringBuilder(bus(2, 0, 0, 2, 3) + ";rule f front");
        for (int i = 0; i < 8; i++) {
            text.append(rider(EIGHT[i], 0, i + 1, "f", 50, ""));
        }
        BusSeats x = CHECK.told(text.toString());
        CHECK.sound(x, "free ahead", x.free(), 255);
        CHECK.sound(x, "stop 0", x.stop(), 0);
        CHECK.sound(x, "free of a full bus", x.free(), 0);
        CHECK.sound(x, "standing of a full bus", x.standing(), 0);
        for (int i = 0; i < 8; i++) {
            CHECK.sound(x, "at(" + i + ")", x.at(i), i);
            CHECK.sound(x, "sits(" + i + ")", x.sits(i), i);
            CHECK.sound(x, "order(" + i + ")", x.order(i), i + 1);
            CHECK.sound(x, "shunned(" + i + ")", x.shunned(i), i % 2 == 0 ? 0 : 99);
        }
        CHECK.sound(x, "sorted of a full bus", x.sorted(), 0);
        int[] due = {5, 2, 2, 2, 7, 4, 4, 4};
        for (int i = 0; i < 8; i++) {
            CHECK.sound(x, "stop " + (i + 1), x.stop(), due[i]);
            CHECK.sound(x, "off", x.at(i), 102);
            CHECK.sound(x, "free behind " + (i + 1), x.free(), (2 << i) - 1);
        }
        CHECK.sound(x, "the rest of an empty bus", x.run(), 0);
        CHECK.sound(x, "free at last", x.free(), 255);
        BusSeats y = CHECK.told(text.toString());
        CHECK.sound(y, "all of it", y.run(), 30);
        // All at the last stop, from every row of the longest way, as dear as can be.
        StringBuilder all = new StringBuilder(bus(4, 2, 0, 9, 9) + ";rule f front");
        for (int i = 0; i < 8; i++) {
            all.append(rider(EIGHT[i], 10, 11, "f", 50, ""));
        }
        BusSeats z = CHECK.told(all.toString());
        CHECK.sound(z, "from stop 0 on", z.run(), 2 * 9 * (1 + 2 + 3 + 4));
        CHECK.sound(z, "seconds(11)", z.seconds(11), 180);
        CHECK.sound(z, "seconds(10)", z.seconds(10), 0);
    }

    /** The first stop and the last one that a rider may come on and get off at. */
    private static void firstAndLastStop() {
        BusSeats x = CHECK.told(bus(1, 0, 0, 3, 0) + ";rule f front" + rider("a", 0, 11, "f", 50, "")
            + rider("b", 10, 11, "f", 50, "") + rider("c", 0, 1, "f", 50, ""));
        at(x, 100, 100, 100);
        CHECK.sound(x, "stop 0", x.stop(), 0);
        at(x, 0, 100, 1);
        CHECK.sound(x, "stop 1", x.stop(), 3);
        at(x, 0, 100, 102);
        for (int s = 2; s < 10; s++) {
            CHECK.sound(x, "stop " + s, x.stop(), 0);
            CHECK.is("stops", x.size(5), s + 1);
        }
        at(x, 0, 100, 102);
        CHECK.sound(x, "stop 10", x.stop(), 0);
        at(x, 0, 1, 102);
        CHECK.sound(x, "stop 11", x.stop(), 6);
        at(x, 102, 102, 102);
        CHECK.is("twelve stops", x.size(5), 12);
        CHECK.refused(x, "stop 12", x.stop(), 6);
        CHECK.is("twelve stops still", x.size(5), 12);
        CHECK.sound(x, "run behind the last", x.run(), 0);
        CHECK.is("twelve stops by run, too", x.size(5), 12);
        CHECK.sound(x, "order is kept", x.order(1), 3);
        CHECK.sound(x, "shunned is kept", x.shunned(0), 0);
        for (int s = 0; s < 12; s++) {
            CHECK.sound(x, "seconds(" + s + ")", x.seconds(s), s == 1 ? 3 : s == 11 ? 6 : 0);
        }
    }

    /** As many as may stand, by their lines: those of the first lines, and those of the last. */
    private static void mostStand() {
        for (int first = 0; first < 2; first++) {
            StringBuilder text = new StringBuilder(bus(1, 2, 0, 2, 0) + ";rule f front");
            for (int i = 0; i < 8; i++) {
                boolean stands = first == 1 ? i < 6 : i >= 2;
                text.append(rider(EIGHT[i], stands ? 1 : 0, stands ? 4 + i % 2 : 3, "f", 50, ""));
            }
            BusSeats x = CHECK.told(text.toString());
            CHECK.stops(x, 2);
            CHECK.sound(x, "six stand", x.standing(), first == 1 ? 63 : 252);
            for (int i = 0; i < 6; i++) {
                CHECK.is("led(" + i + ")", x.led(i), first == 1 ? i : i + 2);
            }
            CHECK.ledThrows(x, 6);
            CHECK.ledThrows(x, -1);
            CHECK.sound(x, "nobody gets off, nobody counts", x.stop(), 0);
            // Two who sit get off, six who stand don't; two of these then sit.
            CHECK.sound(x, "two by six", x.stop(), 2 * 2 + 6);
            CHECK.sound(x, "four stand", x.standing(), first == 1 ? 60 : 240);
            // One from its seat and two who stand get off, two more stand and don't.
            CHECK.sound(x, "three by two", x.stop(), 3 * 2 + 2);
            CHECK.sound(x, "one stands", x.standing(), first == 1 ? 32 : 128);
            CHECK.sound(x, "one stands, and all get off", x.stop(), 3 * 2);
            CHECK.sound(x, "none stands", x.standing(), 0);
            CHECK.ledThrows(x, 0);
        }
    }

    /** Two give up their seats at one stop, and neither chooses, though seats are free. */
    private static void twoGive() {
        BusSeats x = CHECK.told(bus(2, 2, 0, 1, 9) + ";rule f front" + rider("a", 0, 9, "f", 10, "")
            + rider("b", 0, 9, "f", 11, "") + rider("c", 0, 2, "f", 50, "") + rider("e", 0, 2, "f", 50, "")
            + rider("d", 1, 9, "f", 65, "") + rider("g", 1, 9, "f", 99, ""));
        CHECK.stops(x, 2);
        at(x, 0, 3, 4, 7, 101, 101);
        CHECK.sound(x, "two from row 1 by two who stand", x.stop(), 2 * 2 + 2);
        at(x, 101, 101, 102, 102, 0, 3);
        CHECK.sound(x, "given", x.given(), 2);
        CHECK.sound(x, "standing", x.standing(), 3);
        CHECK.sound(x, "free all the same", x.free(), 16 + 128);
        CHECK.stops(x, 1);
        at(x, 4, 7, 102, 102, 0, 3);
        CHECK.sound(x, "given still", x.given(), 2);
        CHECK.sound(x, "order of a, anew", x.order(0), 7);
        CHECK.sound(x, "order of b, anew", x.order(1), 8);
        // One who gives has its own seat free again, and that is no matter at that stop.
        BusSeats y = CHECK.told(bus(1, 2, 0, 1, 9) + ";rule f front" + rider("z", 10, 11, "f", 50, "")
            + rider("a", 0, 9, "f", 10, "") + rider("b", 0, 9, "f", 39, "") + rider("d", 1, 3, "f", 65, "")
            + rider("g", 1, 9, "f", 65, "") + rider("h", 1, 9, "f", 65, ""));
        CHECK.stops(y, 3);
        at(y, 100, 101, 101, 0, 3, 101);
        CHECK.sound(y, "two young, two given, the third old one stands", y.given(), 2);
        CHECK.sound(y, "d gets off by three who stand", y.stop(), 1 + 3);
        // Nobody young sits any more: A, of the first line, takes what is free.
        at(y, 100, 0, 101, 102, 3, 101);
        CHECK.stops(y, 1);
        at(y, 100, 101, 101, 102, 3, 0);
        CHECK.sound(y, "a gave again", y.given(), 3);
    }

    /** Whatever lines the old one and the young one have, the first and the last, too. */
    private static void everyOldAndYoung() {
        for (int old = 0; old < 8; old++) {
            for (int young = 0; young < 8; young++) {
                int third = old != 3 && young != 3 ? 3 : old != 4 && young != 4 ? 4 : 5;
                if (old == young) {
                    continue;
                }
                StringBuilder text = new StringBuilder(bus(1, 2, 0, 1, 9) + ";rule f front");
                for (int r = 0; r < 8; r++) {
                    text.append(r == old ? rider(EIGHT[r], 1, 9, "f", 65, "")
                        : r == young ? rider(EIGHT[r], 0, 9, "f", 39, "")
                        : rider(EIGHT[r], r == third ? 0 : 10, 11, "f", 40, ""));
                }
                BusSeats x = CHECK.told(text.toString());
                CHECK.stops(x, 2);
                int seat = x.at(young);
                CHECK.is("the old one stands", x.standing(), 1 << old);
                CHECK.is("it is led", x.led(0), old);
                CHECK.stops(x, 1);
                CHECK.is("the old one sits there", x.at(old), seat);
                CHECK.is("the young one stands", x.standing(), 1 << young);
                CHECK.is("the young one is led", x.led(0), young);
                CHECK.is("the third one sits still", x.at(third), 3 - seat);
            }
        }
    }

    /** Bags where seats are given: the young one takes its own, the old one lays its own. */
    private static void bagsWhereGiven() {
        BusSeats x = CHECK.told(bus(1, 0, 0, 1, 0) + ";rule f front;rule w window" + rider("a", 0, 9, "w", 20, " bag")
            + rider("b", 0, 9, "w", 50, " bag") + rider("c", 1, 9, "f", 70, " bag proud"));
        CHECK.stops(x, 1);
        CHECK.is("a's bag", x.bag(1), 0);
        CHECK.is("b's bag", x.bag(2), 1);
        CHECK.stops(x, 1);
        // No seat is free, and by a bag somebody sits: C is proud and stands; no bag is taken off.
        at(x, 0, 3, 101);
        CHECK.is("a's bag stays", x.bag(1), 0);
        CHECK.is("b's bag stays", x.bag(2), 1);
        CHECK.stops(x, 1);
        at(x, 101, 3, 0);
        CHECK.is("c's bag", x.bag(1), 2);
        CHECK.is("free of bags", x.free(), 0);
        CHECK.stops(x, 1);
        // A takes off b's or c's: windows there are none, so the first.
        at(x, 1, 3, 0);
        CHECK.is("c's bag is off", x.bag(1), -2);
        CHECK.is("b's stays", x.bag(2), 1);
        CHECK.is("a's is nowhere", x.bag(0), -2);
    }

    /** The bag's seat that is the first of all, and the last. */
    private static void bagAtEitherEnd() {
        BusSeats x = CHECK.told(bus(1, 0, 0, 1, 0) + ";rule f front" + rider("a", 0, 9, "f", 50, " bag")
            + rider("b", 0, 9, "f", 50, "") + rider("c", 0, 9, "f", 50, "") + rider("d", 1, 9, "f", 50, "")
            + holds("a", 1));
        CHECK.stops(x, 1);
        at(x, 1, 2, 3, 100);
        CHECK.sound(x, "a's bag", x.bag(0), 0);
        CHECK.sound(x, "none is free", x.free(), 0);
        CHECK.sound(x, "choice of a bag's seat", x.choice(3), 0);
        CHECK.sound(x, "ties of bags' seats", x.ties(3), 1);
        CHECK.is("asking takes no bag off", x.bag(0), 0);
        CHECK.stops(x, 1);
        at(x, 1, 2, 3, 0);
        CHECK.sound(x, "the bag is off", x.bag(0), -2);
        BusSeats y = CHECK.told(bus(5, 0, 4, 1, 0) + ";rule k back" + rider("a", 0, 9, "k", 50, " bag")
            + rider("b", 0, 9, "k", 50, "") + holds("a", 18));
        CHECK.stops(y, 1);
        at(y, 18, 16);
        CHECK.sound(y, "bag in the last seat", y.bag(19), 0);
        CHECK.sound(y, "free but three", y.free(), (1 << 20) - 1 - (1 << 16) - (3 << 18));
        // No seat beside, no bag laid.
        BusSeats z = CHECK.told(bus(5, 2, 0, 1, 0) + ";rule k back" + rider("a", 0, 9, "k", 50, " bag")
            + rider("b", 0, 9, "k", 50, " bag"));
        CHECK.stops(z, 1);
        at(z, 16, 19);
        CHECK.sound(z, "free but two", z.free(), 0x99999 - (1 << 16) - (1 << 19));
    }

    /** None, one, .. six come to sit elsewhere ahead of the one who does so beside. */
    private static void shunnedByMany() {
        for (int others = 0; others <= 6; others++) {
            StringBuilder text = new StringBuilder(bus(5, 0, 0, 1, 0) + ";rule k alone,back"
                + rider("a", 0, 9, "k", 50, ""));
            for (int i = 0; i < others; i++) {
                text.append(rider(String.valueOf((char) ('b' + i)), 1, 8, "k", 50, ""));
            }
            BusSeats x = CHECK.told(text + rider("z", 1, 5, "k", 50, "") + holds("a", 0) + holds("z", 1));
            CHECK.stops(x, 1);
            CHECK.sound(x, "nobody came", x.shunned(0), 99);
            CHECK.stops(x, 1);
            CHECK.sound(x, "behind " + others, x.shunned(0), others);
            CHECK.sound(x, "z itself", x.shunned(others + 1), 99);
            CHECK.stops(x, 5);
            CHECK.sound(x, "kept behind " + others, x.shunned(0), others);
            BusSeats y = CHECK.told(text + rider("z", 1, 5, "k", 50, "") + holds("a", 0) + holds("z", 19));
            CHECK.stops(y, 2);
            CHECK.sound(y, "none beside", y.shunned(0), 99);
        }
    }

    /** What was counted in a former seat is forgotten in the next one, of whatever line a rider is. */
    private static void shunnedInTheNextSeat() {
        for (int ahead = 0; ahead < 3; ahead++) {
            StringBuilder text = new StringBuilder(bus(1, 0, 0, 1, 0) + ";rule f front;rule w window");
            for (int i = 0; i < ahead; i++) {
                text.append(rider(String.valueOf((char) ('x' + i)), 10, 11, "f", 50, ""));
            }
            BusSeats x = CHECK.told(text + rider("a", 0, 9, "w", 20, "") + rider("b", 0, 3, "w", 50, "")
                + rider("c", 0, 9, "f", 50, "") + rider("d", 0, 9, "f", 50, "") + rider("e", 1, 9, "f", 70, ""));
            CHECK.stops(x, 2);
            CHECK.sound(x, "joined by c behind b", x.shunned(ahead), 1);
            CHECK.stops(x, 1);
            CHECK.sound(x, "a stands", x.at(ahead), 101);
            CHECK.sound(x, "as it was while it sat", x.shunned(ahead), 1);
            CHECK.stops(x, 1);
            CHECK.sound(x, "a sits where b sat", x.at(ahead), 3);
            CHECK.sound(x, "nobody came since", x.shunned(ahead), 99);
            CHECK.sound(x, "order since", x.order(ahead), 6);
        }
    }

    /** MARKS to the full: each keeps what was, whatever comes later, and one more is refused and keeps nothing. */
    private static void fourMarks() {
        BusSeats x = CHECK.told(bus(1, 2, 0, 2, 0) + ";rule f front" + rider("a", 0, 4, "f", 20, "")
            + rider("b", 0, 11, "f", 50, "") + rider("c", 1, 11, "f", 70, "") + rider("d", 10, 11, "f", 50, ""));
        int[] stops = {0, 2, 5, 12};
        int[][] places = {{100, 100, 100, 100}, {0, 3, 101, 100}, {102, 3, 0, 100}, {102, 102, 102, 102}};
        int[] given = {0, 0, 1, 1};
        for (int m = 0; m < 4; m++) {
            CHECK.is("marks", x.size(6), m);
            CHECK.stops(x, stops[m] - x.size(5));
            CHECK.sound(x, "mark " + m, x.mark(), m);
        }
        for (int i = 0; i < 3; i++) {
            CHECK.refused(x, "mark 4", x.mark(), 3);
            CHECK.is("four marks", x.size(6), 4);
        }
        for (int m : new int[] {3, 0, 2, 1, 1, 0, 3, 2}) {
            CHECK.sound(x, "back(" + m + ")", x.back(m) ? 1 : 0, 1);
            CHECK.is("stops of " + m, x.size(5), stops[m]);
            at(x, places[m]);
            CHECK.sound(x, "given of " + m, x.given(), given[m]);
            CHECK.is("all marks stay", x.size(6), 4);
            CHECK.refused(x, "seconds of " + m, x.seconds(stops[m]), 1);
            if (m == 1) {
                CHECK.stops(x, 3);
                at(x, places[2]);
            }
        }
        // Without a stop and at the end of all: a mark may be made there, too, and twice.
        BusSeats y = CHECK.told(bus(1, 2, 0, 2, 0) + ";rule f front" + rider("a", 0, 4, "f", 20, ""));
        CHECK.sound(y, "mark 0", y.mark(), 0);
        CHECK.sound(y, "mark 1", y.mark(), 1);
        y.run();
        CHECK.sound(y, "mark 2", y.mark(), 2);
        CHECK.sound(y, "back(1)", y.back(1) ? 1 : 0, 1);
        CHECK.is("ahead of stop 0", y.size(5), 0);
        CHECK.refused(y, "no seconds", y.seconds(0), 1);
    }

    /** Whatever two buses an object has had, the third one goes as on a new object. */
    private static void aThirdBus() {
        String[] texts = {
            bus(2, 0, 1, 9, 9).replace("none", "right") + ";rule n friend,shade;rule s shade;rule k like"
                + ";rider a on 0 off 9 by s looks 9 age 20 bag;rider b on 0 off 2 by n looks 0 age 70 proud"
                + ";rider c on 1 off 9 by n looks 5 age 66;rider d on 1 off 4 by k looks 8 age 30 bag proud"
                + ";friends a,c;friends b,d;friends d,a;holds c row 0 seat 1;holds a row 1 seat 3",
            bus(1, 0, 0, 1, 2).replace("none", "left") + ";rule s shade,front;rule n friend"
                + ";rider q on 0 off 3 by s looks 1 age 50 bag;rider r on 1 off 5 by n looks 2 age 50"
                + ";rider t on 1 off 5 by n looks 2 age 50 proud",
            bus(2, 1, 0, 3, 0) + ";rule s like,far;rider c on 0 off 5 by s looks 4 age 10"
                + ";rider d on 0 off 3 by s looks 9 age 70;rider e on 1 off 8 by s looks 3 age 80 bag"
                + ";rider f on 2 off 7 by s looks 8 age 39;friends c,d"};
        for (String first : texts) {
            for (String second : texts) {
                for (String third : texts) {
                    BusSeats x = CHECK.told(first);
                    CHECK.stops(x, 3);
                    x.mark();
                    x.film(1, 3);
                    x.dealt(0);
                    CHECK.is("the second is sound", Check.tell(x, second) > 0 ? 1 : 0, 1);
                    CHECK.stops(x, 2);
                    x.mark();
                    x.film(8, 0);
                    CHECK.is("the third is sound", Check.tell(x, third) > 0 ? 1 : 0, 1);
                    BusSeats y = CHECK.told(third);
                    CHECK.is("ahead", x.ways(), y.ways());
                    for (int s = 0; s < 4; s++) {
                        CHECK.is("odds", x.odds(0, s), y.odds(0, s));
                    }
                    CHECK.is("dealt", x.dealt(0), y.dealt(0));
                    CHECK.stops(x, 3);
                    CHECK.stops(y, 3);
                    CHECK.is("third as on a new one: " + third, Seen.of(x).equals(Seen.of(y)) ? 1 : 0, 1);
                }
            }
        }
    }

    public static void main(String[] args) {
        everySeat();
        everyPair();
        mostPairs();
        eightRiders();
        firstAndLastStop();
        mostStand();
        twoGive();
        everyOldAndYoung();
        bagsWhereGiven();
        bagAtEitherEnd();
        shunnedByMany();
        shunnedInTheNextSeat();
        fourMarks();
        aThirdBus();
        CHECK.end();
    }
}
