/** Choosing, odds, mondays, doorways, films and deals at their edges: term III, promises 20 to 30. */
public final class ChoosingEdgesTest {
    private static final Check CHECK = new Check("ChoosingEdgesTest");
    private static final long LOT = 27720;
    private static final String[] THERE = {"1111", "1011", "1001"};
    private static final String[] EIGHT = {"a", "b", "c", "d", "e", "g", "h", "i"};

    private static String bus(int rows, int form) {
        return "bus rows " + rows + " form " + form + " door 0 pace 1 rise 1 sun none";
    }

    private static String rider(String name, int on, int off, String rule, int looks, String more) {
        return ";rider " + name + " on " + on + " off " + off + " by " + rule + " looks " + looks + " age 50" + more;
    }

    private static String holds(String name, int seat) {
        return ";holds " + name + " row " + seat / 4 + " seat " + seat % 4;
    }

    private static int[] seats(int rows, int form) {
        int[] all = new int[rows * (4 - form)];
        int n = 0;
        for (int s = 0; s < 4 * rows; s++) {
            if (THERE[form].charAt(s % 4) == '1') {
                all[n++] = s;
            }
        }
        return all;
    }

    /** None to twenty ties: each of the first twelve alike, none behind them. */
    private static void oddsOfSoManyTies() {
        boolean[] had = new boolean[21];
        for (int form = 0; form < 3; form++) {
            for (int rows = 1; rows <= 5; rows++) {
                int[] all = seats(rows, form);
                for (int taken = 0; taken <= 4 && taken <= all.length; taken++) {
                    had[all.length - taken] = true;
                    ties(rows, form, all, taken);
                }
            }
        }
        for (int n = 0; n <= 20; n++) {
            CHECK.is(n + " ties had", had[n] ? 1 : 0, 1);
        }
    }

    /** The last seats are taken by those who hold them; Zed finds the others all alike. */
    private static void ties(int rows, int form, int[] all, int taken) {
        StringBuilder text = new StringBuilder(bus(rows, form) + ";rule n friend");
        StringBuilder held = new StringBuilder();
        for (int i = 0; i < taken; i++) {
            text.append(rider(EIGHT[i], 0, 9, "n", 1, ""));
            held.append(holds(EIGHT[i], all[all.length - 1 - i]));
        }
        BusSeats x = CHECK.told(text + rider("zed", 1, 9, "n", 1, "") + held);
        CHECK.stops(x, 1);
        int n = all.length - taken;
        String what = " of " + n + " in form " + form;
        CHECK.sound(x, "ties" + what, x.ties(taken), n);
        CHECK.sound(x, "choice" + what, x.choice(taken), n == 0 ? -2 : all[0]);
        CHECK.sound(x, "ways" + what, x.ways(), LOT);
        long sum = 0;
        for (int i = 0; i < all.length; i++) {
            long due = i < n && i < 12 ? LOT / Math.min(n, 12) : 0;
            CHECK.sound(x, "odds of tie " + i + what, x.odds(taken, all[i]), due);
            sum += due;
        }
        CHECK.is("all odds" + what, sum, n == 0 ? 0 : LOT);
    }

    /** Two and four on an empty bus of twenty seats: of each one's ties the first twelve. */
    private static void oddsOfFour() {
        String text = bus(5, 0) + ";rule n friend" + rider("a", 0, 9, "n", 1, "") + rider("b", 0, 9, "n", 1, "");
        BusSeats x = CHECK.told(text);
        long part = LOT / 12;
        for (int s = 0; s < 20; s++) {
            CHECK.sound(x, "first of two in " + s, x.odds(0, s), s < 12 ? part * LOT : 0);
            // Whichever of 0 to 11 is taken, 12 is the twelfth that is left.
            CHECK.sound(x, "second of two in " + s, x.odds(1, s), s < 12 ? 11 * part * part : s == 12 ? 12 * part * part : 0);
        }
        BusSeats y = CHECK.told(text + rider("c", 0, 9, "n", 1, "") + rider("d", 0, 9, "n", 1, ""));
        CHECK.sound(y, "ways of four", y.ways(), 590436101122560000L);
        CHECK.sound(y, "first of four", y.odds(0, 11), 590436101122560000L / 12);
        CHECK.sound(y, "first of four behind", y.odds(0, 12), 0);
        long all = 0;
        for (int s = 0; s < 20; s++) {
            all += y.odds(3, s);
        }
        CHECK.is("last of four sits somewhere", all, 590436101122560000L);
        // Three of 0 to 13 are taken by then, so that 14 is always the twelfth that is left.
        CHECK.sound(y, "last of four in 14", y.odds(3, 14), 590436101122560000L / 12);
        CHECK.sound(y, "last of four in 15", y.odds(3, 15), 0);
        CHECK.sound(y, "third of four in 14", y.odds(2, 14), 0);
        BusSeats z = CHECK.told(text + rider("c", 0, 9, "n", 1, ""));
        CHECK.sound(z, "ways of three", z.ways(), 21300003648000L);
        CHECK.stops(z, 1);
        CHECK.sound(z, "ways of none", z.ways(), 1);
        CHECK.refused(z, "odds of one who sits", z.odds(2, 3), 5);
    }

    /** Who gets off, gives, stands and chooses at the coming stop has done so before anybody's odds are told. */
    private static void oddsBehindTheStop() {
        for (int age : new int[] {64, 65}) {
            BusSeats x = CHECK.told(bus(1, 2) + ";rule f front" + rider("a", 0, 9, "f", 1, "").replace("age 50", "age 20")
                + rider("b", 0, 2, "f", 1, "") + rider("c", 1, 9, "f", 1, "").replace("age 50", "age " + age)
                + rider("d", 2, 9, "f", 1, ""));
            CHECK.stops(x, 2);
            CHECK.sound(x, "standing", x.standing(), 4);
            // Given A's seat, C leaves B's to D, as A doesn't choose; not given one, it takes B's.
            CHECK.sound(x, "odds of d in b's seat", x.odds(3, 3), age == 65 ? LOT : 0);
            CHECK.sound(x, "odds of d in a's seat", x.odds(3, 0), 0);
            CHECK.is("nobody is off yet", x.at(1), 3);
            CHECK.is("nothing is given yet", x.given(), 0);
            CHECK.is("c stands still", x.at(2), 101);
            CHECK.stops(x, 1);
            CHECK.is("d at last", x.at(3), age == 65 ? 3 : 101);
        }
    }

    /** Odds go by looks: of those who sit, and of those who come on ahead. */
    private static void oddsByLooks() {
        BusSeats x = CHECK.told(bus(1, 0) + ";rule k like" + rider("a", 0, 9, "k", 9, "") + rider("b", 1, 9, "k", 1, "")
            + rider("c", 1, 9, "k", 0, "") + rider("d", 1, 9, "k", 9, "") + holds("a", 1));
        CHECK.stops(x, 1);
        long three = LOT * LOT * LOT;
        // B keeps off A, 8 apart: 2 or 3; C goes by B, 1 apart; D finds but the seat by A.
        long[][] due = {{0, 0, three / 2, three / 2}, {0, 0, three / 2, three / 2}, {three, 0, 0, 0}};
        for (int r = 1; r < 4; r++) {
            for (int s = 0; s < 4; s++) {
                CHECK.sound(x, "odds by looks of " + r + " in " + s, x.odds(r, s), due[r - 1][s]);
            }
        }
        // A mark is a copy, too.
        x.mark();
        CHECK.stops(x, 1);
        CHECK.is("b", x.at(1), 2);
        x.back(0);
        CHECK.is("choice of b behind back", x.choice(1), 2);
        CHECK.sound(x, "odds of d behind back", x.odds(3, 0), three);
        CHECK.stops(x, 1);
        CHECK.is("c by b behind back", x.at(2), 3);
    }

    /** Whoever's friend comes, he goes by that one, on whichever side and whoever was named first. */
    private static void everyTwoFriends() {
        for (int i = 0; i < 8; i++) {
            for (int j = 0; j < 8; j++) {
                for (int order = 0; order < 2 && i != j; order++) {
                    StringBuilder text = new StringBuilder(bus(2, 0) + ";rule n friend");
                    for (int r = 0; r < 8; r++) {
                        text.append(rider(EIGHT[r], r == i ? 0 : r == j ? 1 : 5, 9, "n", 1, ""));
                    }
                    text.append(";friends ").append(EIGHT[order == 0 ? i : j]).append(",")
                        .append(EIGHT[order == 0 ? j : i]).append(holds(EIGHT[i], 7));
                    BusSeats x = CHECK.told(text.toString());
                    CHECK.stops(x, 1);
                    CHECK.is("friend sits", x.at(i), 7);
                    for (int r = 0; r < 8; r++) {
                        if (r != i) {
                            CHECK.sound(x, "ties of " + r, x.ties(r), r == j ? 1 : 7);
                            CHECK.sound(x, "choice of " + r, x.choice(r), r == j ? 6 : 0);
                        }
                    }
                }
            }
        }
    }

    /** A proud one who holds a seat: free, with a bag, taken, or none of this bus; and no seat left at all. */
    private static void proudHolder() {
        String text = bus(1, 0) + ";rule f front" + rider("a", 0, 9, "f", 1, " bag") + rider("b", 0, 9, "f", 1, " bag")
            + rider("c", 1, 9, "f", 1, " proud") + holds("a", 0);
        // Both bags lie in the seats beside, 1 and 3: of these the first is by A.
        int[][] due = {{0, -2, 0}, {1, 1, 2}, {2, -2, 0}, {3, -2, 0}, {4, -2, 0}, {19, -2, 0}};
        for (int[] d : due) {
            BusSeats x = CHECK.told(text + holds("c", d[0]));
            CHECK.sound(x, "choice ahead, of " + d[0], x.choice(2), d[0] < 4 ? d[0] : 0);
            CHECK.sound(x, "ties ahead, of " + d[0], x.ties(2), d[0] < 4 ? 1 : 4);
            CHECK.stops(x, 1);
            CHECK.is("none is free", x.free(), 0);
            CHECK.sound(x, "choice by bags, of " + d[0], x.choice(2), d[1]);
            CHECK.sound(x, "ties by bags, of " + d[0], x.ties(2), d[2]);
            CHECK.stops(x, 1);
            CHECK.is("c, of " + d[0], x.at(2), d[1] == -2 ? 101 : d[1]);
        }
        for (int held : new int[] {0, 2, 3, 4, 18}) {
            BusSeats x = CHECK.told(bus(1, 2) + ";rule f front" + rider("a", 0, 9, "f", 1, "")
                + rider("b", 0, 9, "f", 1, "") + rider("c", 1, 9, "f", 1, " proud") + holds("c", held));
            CHECK.stops(x, 1);
            CHECK.sound(x, "choice of none left, of " + held, x.choice(2), -2);
            CHECK.sound(x, "ties of none left, of " + held, x.ties(2), 0);
            CHECK.sound(x, "odds of none left, of " + held, x.odds(2, 0), 0);
            CHECK.stops(x, 1);
            CHECK.is("c stands, of " + held, x.at(2), 101);
        }
    }

    /** Looks of every two: nearer than 5 is better than nobody, 5 as good, more is worse. */
    private static void everyTwoLooks() {
        for (int one = 0; one <= 9; one++) {
            for (int other = 0; other <= 9; other++) {
                BusSeats x = CHECK.told(bus(2, 0) + ";rule k like" + rider("a", 0, 9, "k", one, "")
                    + rider("b", 1, 9, "k", other, "") + holds("a", 1));
                CHECK.stops(x, 1);
                int apart = Math.abs(one - other);
                CHECK.sound(x, "ties of " + other + " by " + one, x.ties(1), apart < 5 ? 1 : apart == 5 ? 7 : 6);
                CHECK.sound(x, "choice of " + other + " by " + one, x.choice(1), apart <= 5 ? 0 : 2);
            }
        }
    }

    /** As far as can be from who sits, from every seat of each form. */
    private static void farFromEverySeat() {
        for (int form = 0; form < 3; form++) {
            int[] all = seats(5, form);
            for (int from : all) {
                int most = 0;
                int first = -1;
                int ties = 0;
                for (int s : all) {
                    int far = 2 * Math.abs(s / 4 - from / 4) + Math.abs(s % 4 - from % 4);
                    if (s != from && far >= most) {
                        first = far > most ? s : first;
                        ties = far > most ? 1 : ties + 1;
                        most = far;
                    }
                }
                BusSeats x = CHECK.told(bus(5, form) + ";rule o far" + rider("a", 0, 9, "o", 1, "")
                    + rider("b", 1, 9, "o", 1, "") + holds("a", from));
                CHECK.sound(x, "ties while nobody sits", x.ties(1), all.length);
                CHECK.stops(x, 1);
                CHECK.sound(x, "far from " + from + " in form " + form, x.choice(1), first);
                CHECK.sound(x, "as far from " + from + " in form " + form, x.ties(1), ties);
            }
        }
    }

    /** Eight are driven, one by one: on a full bus till there is none left, else till the last finds a free seat. */
    private static void mondayOfEight() {
        for (int rows = 4; rows <= 5; rows++) {
            StringBuilder text = new StringBuilder(bus(rows, 2) + ";rule f front");
            for (int i = 0; i < 8; i++) {
                text.append(rider(EIGHT[i], 0, 9, "f", 1, ""));
            }
            BusSeats x = CHECK.told(text.toString());
            int[] all = seats(rows, 2);
            for (int s : all) {
                CHECK.sound(x, "monday ahead", x.monday(s), 0);
            }
            CHECK.stops(x, 1);
            for (int i = 0; i < all.length; i++) {
                CHECK.sound(x, "monday of eight in " + all[i] + " of " + rows + " rows", x.monday(all[i]), i < 8 ? 8 : 0);
            }
            CHECK.is("all sit where they sat", x.at(7), 15);
            x.run();
            CHECK.sound(x, "monday behind all", x.monday(0), 0);
        }
        // A single seat pair: one is driven beside the new one, or out.
        BusSeats y = CHECK.told(bus(1, 2) + ";rule f front" + rider("a", 0, 9, "f", 1, ""));
        CHECK.stops(y, 1);
        CHECK.sound(y, "one driven", y.monday(0), 1);
        CHECK.sound(y, "none driven", y.monday(3), 0);
    }

    /** The new one has looks 5, and who is driven goes by them. */
    private static void mondayByLooks() {
        for (int looks = 0; looks <= 9; looks++) {
            BusSeats x = CHECK.told(bus(2, 0) + ";rule k like" + rider("a", 0, 9, "k", looks, "")
                + rider("b", 0, 9, "k", 5, "") + holds("a", 6) + holds("b", 7));
            CHECK.stops(x, 1);
            // A in 7 by the new one drives B, who then goes alone or by one of its own looks; 0, where nobody is, else.
            int apart = Math.abs(looks - 5);
            CHECK.sound(x, "driven by looks " + looks, x.monday(6), apart < 5 ? 2 : 1);
        }
        // By C, 1 apart, rather than by the new one, 4 apart: D is driven, not B.
        BusSeats y = CHECK.told(bus(2, 0) + ";rule k like;rule o far" + rider("a", 0, 9, "k", 9, "")
            + rider("b", 0, 9, "o", 9, "") + rider("c", 0, 9, "k", 8, "") + rider("d", 0, 9, "k", 1, "") + holds("a", 6)
            + holds("b", 7) + holds("c", 2) + holds("d", 3));
        CHECK.stops(y, 1);
        // D, 1, is 4 apart from the new one: it takes 7 and drives B, who sits far from all, in 0.
        CHECK.sound(y, "by who is liked most", y.monday(6), 3);
        // From 3 D takes 2, by the new one; C, driven, goes by B to 6; A, driven, by C to 7; B finds a free one.
        CHECK.sound(y, "all four", y.monday(3), 4);
    }

    private static BusSeats doorway(int rows, int pace, int rise, int stop, int offA, int offB) {
        BusSeats x = CHECK.told("bus rows " + rows + " form 0 door 0 pace " + pace + " rise " + rise
            + " sun none;rule f front" + rider("z", 0, 11, "f", 1, "") + rider("a", 0, offA, "f", 1, " proud")
            + rider("b", 0, offB, "f", 1, " proud"));
        CHECK.stops(x, stop);
        return x;
    }

    /** Costs that are alike are no reason to move; the utmost stops, paces, rows and rises. */
    private static void doorways() {
        // pace, rise, rows, the coming stop, off of both: rests.
        int[][] due = {
            // By the door 1 (2 by two), within 2 (2): only within, both, is no rest.
            {1, 0, 1, 1, 1, 1, 7},
            // 2 (4), within 2 (2).
            {1, 0, 1, 1, 2, 2, 14},
            // 4 (8), within 4 (6).
            {1, 2, 1, 1, 4, 4, 14},
            // 3 (6), within 4 (6): alike by two.
            {1, 2, 1, 1, 3, 3, 7},
            // 3 (6) and 4 (8), within 4 (6): the first alone, or the second, whom the other way costs as much.
            {1, 2, 1, 1, 3, 4, 6},
            {1, 2, 1, 1, 4, 3, 6},
            {1, 2, 1, 1, 3, 5, 2},
            {1, 2, 1, 1, 5, 3, 4},
            {1, 2, 1, 1, 4, 5, 10},
            {1, 2, 1, 1, 5, 5, 8},
            // The greatest: 99 (198) by the door, within 63 (72); 11 (22), within 15 (24).
            {9, 9, 5, 1, 11, 11, 8},
            {1, 9, 5, 1, 11, 11, 1},
            {9, 9, 5, 1, 1, 11, 2},
            {9, 9, 5, 1, 11, 1, 4},
            // At their own last stop: one pace.
            {9, 0, 5, 11, 11, 11, 1},
            {9, 0, 1, 11, 11, 11, 7},
            {1, 9, 1, 5, 5, 11, 1},
        };
        for (int[] d : due) {
            BusSeats x = doorway(d[2], d[0], d[1], d[3], d[4], d[5]);
            CHECK.sound(x, "doorway of pace " + d[0] + " rise " + d[1] + " rows " + d[2] + " at " + d[3] + " off " + d[4]
                + ", " + d[5], x.doorway(1, 2), d[6]);
            CHECK.sound(x, "doorway the other way round", x.doorway(2, 1), d[6] & 9 | (d[6] & 2) << 1 | (d[6] & 4) >> 1);
            CHECK.refused(x, "one of them sits", x.doorway(0, 1), 5);
        }
        BusSeats x = doorway(1, 1, 0, 3, 2, 9);
        CHECK.refused(x, "one of them is off", x.doorway(1, 2), 5);
        BusSeats y = doorway(1, 1, 0, 0, 2, 9);
        CHECK.refused(y, "neither is on yet", y.doorway(1, 2), 5);
    }

    /** Twelve films: all agree, none does; the first rule of those with most is likely, with none, too. */
    private static void films() {
        BusSeats x = CHECK.told(bus(2, 0) + ";rule w window;rule f front;rule i aisle;rule k back"
            + rider("a", 0, 9, "w", 1, ""));
        CHECK.refused(x, "likely without films", x.likely(), 6);
        // 2 is at the aisle in front.
        for (int i = 1; i <= 12; i++) {
            CHECK.sound(x, "film", x.film(0, 2), i);
            CHECK.is("films", x.size(7), i);
            int[] due = {0, i, i, 0};
            for (int rule = 0; rule < 4; rule++) {
                CHECK.sound(x, "agrees(" + rule + ") of " + i, x.agrees(rule), due[rule]);
            }
            CHECK.sound(x, "likely of " + i, x.likely(), 1);
        }
        CHECK.refused(x, "film 13", x.film(0, 2), 3);
        CHECK.is("films still", x.size(7), 12);
        BusSeats y = CHECK.told(bus(2, 0) + ";rule w window;rule k back" + rider("a", 0, 9, "w", 1, ""));
        y.film(0, 1);
        CHECK.sound(y, "agrees(0) with none", y.agrees(0), 0);
        CHECK.sound(y, "agrees(1) with none", y.agrees(1), 0);
        CHECK.sound(y, "likely where none agrees", y.likely(), 0);
        y.film(0, 5);
        CHECK.sound(y, "likely, the second", y.likely(), 1);
        y.film(0, 3);
        CHECK.sound(y, "likely, as many", y.likely(), 0);
        // On the greatest bus: all others taken, and the last seat's bit.
        BusSeats z = CHECK.told(bus(5, 0) + ";rule w window" + rider("a", 0, 9, "w", 1, ""));
        CHECK.sound(z, "all but the last", z.film((1 << 19) - 1, 19), 1);
        CHECK.sound(z, "all but the first", z.film((1 << 20) - 2, 0), 2);
        CHECK.sound(z, "an aisle seat, for there is no other", z.film((1 << 20) - 1 - (1 << 17), 17), 3);
        CHECK.sound(z, "agrees", z.agrees(0), 3);
        CHECK.refused(z, "a bit behind the last", z.film(1 << 20, 0), 2);
        CHECK.refused(z, "a seat behind the last", z.film(0, 20), 1);
    }

    private static void deals() {
        // B gets off ahead of C, who then goes by A if it likes its looks.
        String text = bus(1, 0) + ";rule k like" + rider("b", 0, 1, "k", 0, "") + rider("a", 0, 9, "k", 0, "")
            + rider("c", 1, 9, "k", 9, "") + holds("a", 0) + holds("b", 1);
        BusSeats x = CHECK.told(text);
        CHECK.sound(x, "a, by whom nobody sits down as told", x.dealt(1), 4);
        CHECK.sound(x, "b, by whom a sits down in any case", x.dealt(0), 6);
        CHECK.sound(x, "c, by whom nobody does", x.dealt(2), 6);
        // What comes about at stop 10 counts: B and C come on there.
        BusSeats y = CHECK.told(bus(1, 0) + ";rule k like" + rider("a", 0, 11, "k", 0, "")
            + rider("b", 10, 11, "k", 9, "") + rider("c", 10, 11, "k", 0, "") + holds("a", 0));
        CHECK.sound(y, "a, shunned by one as told", y.dealt(0), 4);
        CHECK.sound(y, "b", y.dealt(1), 4);
        CHECK.sound(y, "c", y.dealt(2), 6);
        // Six riders: where looks are of no matter, and where all are alike, every deal is as told.
        for (String rule : new String[] {"front", "like"}) {
            StringBuilder six = new StringBuilder(bus(2, 0) + ";rule f " + rule);
            for (int i = 0; i < 6; i++) {
                six.append(rider(EIGHT[i], i, 11, "f", rule.equals("like") ? 7 : i, ""));
            }
            BusSeats z = CHECK.told(six.toString());
            CHECK.sound(z, "deals of six", z.deals(), 720);
            for (int r = 0; r < 6; r++) {
                CHECK.sound(z, "dealt(" + r + ") by " + rule, z.dealt(r), 720);
            }
        }
        // One rider: the only deal is the one that is told.
        BusSeats one = CHECK.told(bus(1, 2) + ";rule k like" + rider("a", 0, 9, "k", 0, ""));
        CHECK.sound(one, "deals of one", one.deals(), 1);
        CHECK.sound(one, "dealt of one", one.dealt(0), 1);
    }

    public static void main(String[] args) {
        oddsOfSoManyTies();
        oddsOfFour();
        oddsBehindTheStop();
        oddsByLooks();
        everyTwoFriends();
        proudHolder();
        everyTwoLooks();
        farFromEverySeat();
        mondayOfEight();
        mondayByLooks();
        doorways();
        films();
        deals();
        CHECK.end();
    }
}
