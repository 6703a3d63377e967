/** Promises 1 to 5: a new object, feed, bus, fault, where; term I. */
public final class TextTest {
    private static final String BUS = "bus rows 2 form 0 door 0 pace 2 rise 3 sun left";
    private static final String RULE = "rule r far";
    private static final String RIDER = "rider a on 0 off 2 by r looks 3 age 30";
    private static final String ALL = BUS + ";" + RULE + ";" + RIDER;
    private static final Check CHECK = new Check("TextTest");

    /** A text with ^ ahead of the place of its fault. */
    private static void fault(int number, String marked) {
        int place = marked.indexOf('^');
        String text = marked.substring(0, place) + marked.substring(place + 1);
        BusSeats x = new BusSeats();
        CHECK.refused(x, "bus of " + marked, Check.tell(x, text), 4);
        CHECK.is("fault of " + marked, x.fault(), number);
        CHECK.is("where of " + marked, x.where(), place);
        CHECK.is("tape behind " + marked, x.size(9), 0);
        CHECK.is("riders behind " + marked, x.size(0), 0);
    }

    private static BusSeats sound(String text, int riders) {
        BusSeats x = new BusSeats();
        CHECK.sound(x, "bus of " + text, Check.tell(x, text), riders);
        CHECK.is("fault of " + text, x.fault(), 0);
        CHECK.is("where of " + text, x.where(), -1);
        return x;
    }

    private static void promise1() {
        BusSeats x = new BusSeats();
        CHECK.is("trouble of a new one", x.trouble(), 0);
        CHECK.is("fault of a new one", x.fault(), 0);
        CHECK.is("where of a new one", x.where(), -1);
        for (int what = 0; what <= 9; what++) {
            CHECK.is("size(" + what + ") of a new one", x.size(what), 0);
        }
        CHECK.refused(x, "stop of a new one", x.stop(), 1);
        CHECK.refused(x, "free of a new one", x.free(), 1);
        CHECK.refused(x, "layout of a new one", x.layout(0, 0), 1);
        CHECK.refused(x, "at of a new one", x.at(0), 1);
        CHECK.ledThrows(x, 0);
    }

    private static void promise2() {
        BusSeats x = new BusSeats();
        x.stop();
        for (int i = 1; i <= 45; i++) {
            CHECK.is("feed " + i, x.feed(0x20202020, 0x20202020, 0x20202020, 0x20202020, 0x20202020), 20 * i);
        }
        CHECK.is("feed 46", x.feed(0, 0, 0, 0, 0), -1);
        CHECK.is("tape of 900", x.size(9), 900);
        CHECK.is("feed is never refused by a number", x.trouble(), 1);
        CHECK.refused(x, "bus of 900 blanks", x.bus(900), 4);
        CHECK.is("fault of 900 blanks", x.fault(), 1);
        CHECK.is("where of 900 blanks", x.where(), 900);
        CHECK.is("feed again", x.feed(0, 0, 0, 0, 0), 20);
        // Of each number the highest byte first: "rule r far,a" and a byte above 127 behind it.
        BusSeats y = new BusSeats();
        y.feed(0x72756c65, 0x20722066, 0x61722c61, 0x696c65ff, 0xffffffff);
        CHECK.refused(y, "bus of high bytes", y.bus(20), 4);
        CHECK.is("fault of high bytes", y.fault(), 1);
        CHECK.is("where of high bytes", y.where(), 11);
        y.feed(0x72756c65, 0x20722066, 0x61722cff, 0x20202020, 0x20202020);
        y.bus(20);
        CHECK.is("where of a high byte", y.where(), 11);
        // A text of 900 bytes, sound to its last one.
        sound(ALL + " ".repeat(900 - ALL.length()), 1);
        sound(" ".repeat(900 - ALL.length()) + ALL, 1);
    }

    private static void promise3() {
        BusSeats x = sound(ALL, 1);
        x.stop();
        x.mark();
        x.film(0, 1);
        Check.feed(x, ALL + "!!!");
        CHECK.refused(x, "bus(-1)", x.bus(-1), 2);
        CHECK.refused(x, "bus of too much", x.bus(x.size(9) + 1), 2);
        CHECK.refused(x, "bus(MIN)", x.bus(Integer.MIN_VALUE), 2);
        CHECK.refused(x, "bus(MAX)", x.bus(Integer.MAX_VALUE), 2);
        CHECK.is("the tape stays", x.size(9), 100);
        CHECK.refused(x, "bus of a fault", x.bus(ALL.length() + 1), 4);
        CHECK.is("the tape is empty", x.size(9), 0);
        CHECK.is("the bus stays", x.size(0), 1);
        CHECK.is("its stops stay", x.size(5), 1);
        CHECK.is("its marks stay", x.size(6), 1);
        CHECK.is("its films stay", x.size(7), 1);
        CHECK.is("its places stay", x.at(0), 0);
        Check.feed(x, ALL + "!!!");
        CHECK.sound(x, "bus of the first n", x.bus(ALL.length()), 1);
        CHECK.is("the tape is empty again", x.size(9), 0);
        CHECK.is("ahead of stop 0", x.size(5), 0);
        CHECK.is("no marks", x.size(6), 0);
        CHECK.is("no films", x.size(7), 0);
        CHECK.is("not on yet", x.at(0), 100);
        CHECK.refused(x, "no order", x.order(0), 6);
        CHECK.refused(x, "mark of the former bus", x.back(0) ? 1 : 0, 0, 1);
        // Everything of the new bus is its own.
        String other = "rule q aisle;bus rows 1 form 2 door 0 pace 1 rise 0 sun none;"
            + "rider z on 1 off 3 by q looks 0 age 99;rider y on 2 off 11 by q looks 9 age 0 bag proud";
        CHECK.sound(x, "another bus", Check.tell(x, other), 2);
        CHECK.is("seats of another", x.size(4), 2);
        Check.tell(x, ALL + ";" + RIDER.replace("a on", "b on") + ";friends a,b;holds a row 0 seat 0");
        CHECK.is("friends", x.size(2), 1);
        CHECK.is("holders", x.size(3), 1);
        Check.tell(x, other);
        Check.tell(x, other);
        CHECK.is("friends of another", x.size(2), 0);
        CHECK.is("holders of another", x.size(3), 0);
        CHECK.is("held of another", x.rider(0, 7), -2);
        CHECK.is("rider of another", x.rider(0, 4), 99);
    }

    private static void promises4And5() {
        BusSeats x = new BusSeats();
        Check.tell(x, "rule r far;rule r far");
        CHECK.is("fault of the latest", x.fault(), 3);
        CHECK.is("where of the latest", x.where(), 16);
        x.size(0);
        x.rider(0, 0);
        x.way(0, 0);
        x.feed(0, 0, 0, 0, 0);
        CHECK.is("where behind calls that are never refused", x.where(), 16);
        x.bus(21);
        CHECK.is("fault behind a 2", x.fault(), 3);
        CHECK.is("where behind a 2", x.where(), -1);
        x.bus(0);
        CHECK.is("fault of nothing", x.fault(), 1);
        CHECK.is("where of nothing", x.where(), 0);
        x.alone(5, 2);
        CHECK.is("fault behind another call", x.fault(), 1);
        CHECK.is("where behind another call", x.where(), -1);
        Check.tell(x, ALL);
        CHECK.is("fault without one", x.fault(), 0);
    }

    private static void form() {
        fault(1, "^");
        fault(1, "    ^");
        fault(1, "^;");
        fault(1, "^" + ";" + ALL);
        fault(1, ALL + ";^");
        fault(1, ALL + "; ^");
        fault(1, ALL + ";^;" + RULE);
        fault(1, ALL + "^, bag");
        fault(1, ALL + " ^x");
        fault(1, "^x");
        fault(1, "^7");
        fault(1, "^Bus rows 2");
        fault(1, "^busrows 2");
        fault(1, "^\tbus");
        fault(1, "bus^\nrows 2");
        fault(1, "rule r far^\u00e9");
        fault(1, "rule r far^\0");
        fault(1, "rule r far ^-");
        fault(1, "rule ^abcdefghi far");
        fault(1, "rule abcdefgh ^ghi");
        fault(1, "bus rows ^0002 form 0");
        fault(1, "bus rows 002 ^rows 0");
        String[] parts = {"bus", "rows", "2", "form", "0", "door", "0", "pace", "2", "rise", "3", "sun", "left"};
        whole(parts, "");
        whole(new String[] {"rule", "r", "far", ",", "back"}, "");
        whole(RIDER.split(" "), RULE + ";");
        whole(new String[] {"friends", "a", ",", "b"}, RULE + ";" + RIDER + ";" + RIDER.replace("a on", "b on") + ";");
        whole("holds a row 1 seat 2".split(" "), RULE + ";" + RIDER + ";");
        fault(1, "bus rows 2 form 0 door 0 pace 2 rise 3 sun ^front");
        fault(1, "rule r far,^");
        fault(1, "rule r far ^back");
        fault(1, "rule r far,^near");
        fault(1, "rule r far,^7");
        fault(1, "rule r far,back,like,shade,^near");
        fault(1, "rule r far,back,like,shade,^");
        for (String kept : new String[] {"bus", "rule", "rider", "friends", "holds", "bag", "proud", "alone", "far",
            "window", "aisle", "front", "back", "shade", "like", "friend"}) {
            fault(1, "rule ^" + kept + " far");
            fault(1, RULE + ";rider ^" + kept + " on 0 off 1");
            fault(1, RULE + ";rider a on 0 off 1 by ^" + kept);
            fault(1, RULE + ";" + RIDER + ";friends ^" + kept);
            fault(1, RULE + ";" + RIDER + ";friends a,^" + kept);
            fault(1, RULE + ";" + RIDER + ";holds ^" + kept);
        }
        likeWords();
        fault(1, ALL + " proud ^bag");
        fault(1, ALL + " bag ^bag");
        fault(1, ALL + " bag proud ^proud");
        fault(1, RULE + ";" + RIDER + ";friends a ^a");
    }

    /** Each word that must stand somewhere, with one letter changed, one more, or one less. */
    private static void likeWords() {
        String all = ALL.replace(" far", " far,back") + " bag proud;" + RIDER.replace("a on", "b on")
            + ";friends a,b;holds a row 0 seat 0";
        java.util.regex.Matcher word = java.util.regex.Pattern.compile("[a-z]{2,}").matcher(all);
        while (word.find()) {
            String ahead = all.substring(0, word.start()) + "^";
            String behind = all.substring(word.end());
            String it = word.group();
            for (int i = 0; i < it.length(); i++) {
                fault(1, ahead + it.substring(0, i) + "q" + it.substring(i + 1) + behind);
            }
            fault(1, ahead + it + "s" + behind);
            fault(1, ahead + it.substring(0, it.length() - 1) + behind);
        }
    }

    /** Each token of a line once replaced by a comma or a number, and the line cut short ahead of it. */
    private static void whole(String[] tokens, String ahead) {
        StringBuilder text = new StringBuilder(ahead);
        for (int i = 0; i < tokens.length; i++) {
            if (i > 0 && !tokens[i].equals(",")) {
                fault(1, text + "^");
                fault(1, text + "^, 1");
            }
            fault(1, text + (Character.isDigit(tokens[i].charAt(0)) ? "^x 1" : "^1 x"));
            text.append(tokens[i]).append(' ');
        }
    }

    private static void names() {
        fault(2, RULE + ";rider a on 0 off 1 by ^q");
        fault(2, RULE + ";rider a on 0 off 1 by ^a");
        fault(2, "rider a on 0 off 1 by ^r;" + RULE);
        fault(2, RULE + ";" + RIDER + ";rider b on 0 off 1 by ^a");
        fault(2, "holds ^a row 0 seat 0;" + RULE + ";" + RIDER);
        fault(2, RULE + ";" + RIDER + ";holds ^r row 0 seat 0");
        fault(2, RULE + ";" + RIDER + ";friends ^r,a");
        fault(2, RULE + ";" + RIDER + ";friends a,^r");
        fault(2, RULE + ";" + RIDER + ";friends ^b,a");
        fault(2, RULE + ";" + RIDER + ";friends a,^b");
        fault(3, RULE + ";rule ^r back");
        fault(3, RULE + ";" + RIDER + ";rule ^a back");
        fault(3, RULE + ";rider ^r on 0");
        fault(3, RULE + ";" + RIDER + ";rider ^a on 0");
        fault(3, "rule r far,^far");
        fault(3, "rule r far,back,like,shade,^back");
        fault(3, "rule r far,back,like,shade,^far,near");
        String two = RULE + ";" + RIDER + ";" + RIDER.replace("a on", "b on");
        fault(3, two + ";friends a,^a");
        fault(3, two + ";friends a,b;friends a,^b");
        fault(3, two + ";friends a,b;friends b,^a");
        fault(3, two + ";holds a row 0 seat 0;holds ^a row 1 seat 1");
        fault(3, BUS + ";^bus rows 2");
        fault(3, ALL + ";^" + BUS);
        // Words that are no names only where they stand may be names.
        BusSeats x = sound("rule on aisle;rule rows front;bus rows 1 form 2 door 0 pace 1 rise 0 sun none;"
            + "rider off on 0 off 1 by on looks 0 age 0;rider left on 1 off 2 by rows looks 0 age 1;"
            + "rider by on 1 off 2 by on looks 0 age 1;friends off,by;holds left row 0 seat 3;holds by row 4 seat 3", 3);
        CHECK.is("rule of left", x.rider(1, 2), 1);
        CHECK.is("rule of by", x.rider(2, 2), 0);
        // Names of the same letters are not the same.
        String[] alike = {"ab", "ba", "aab", "aba", "b", "bb", "abababab", "babababa"};
        StringBuilder text = new StringBuilder("rule a far;rule aa far;rule aaa far;rule aaaaaaaa far;" + BUS);
        for (int i = 0; i < alike.length; i++) {
            text.append(";rider ").append(alike[i]).append(" on 0 off 1 by ")
                .append(new String[] {"a", "aa", "aaa", "aaaaaaaa"}[i % 4]).append(" looks 0 age 0");
        }
        BusSeats y = sound(text.toString(), 8);
        for (int i = 0; i < alike.length; i++) {
            CHECK.is("rule of " + alike[i], y.rider(i, 2), i % 4);
        }
        sound("rule abcdefgh far;" + BUS + ";rider abcdefgi on0off1by abcdefgh looks1age1bag proud", 1);
        sound(ALL.replace(" rows", "rows").replace("bus", "bus ").replace(" 2 ", "2").replace(";", " ; "), 1);
    }

    private static void bounds() {
        fault(4, "bus rows ^0 form 0");
        fault(4, "bus rows ^6 form 0");
        fault(4, "bus rows ^999 form 0");
        fault(4, "bus rows 1 form ^3 door 0");
        for (int rows = 1; rows <= 5; rows++) {
            fault(4, "bus rows " + rows + " form 2 door ^" + rows);
            fault(1, "bus rows " + rows + " form 2 door " + (rows - 1) + "^");
        }
        fault(4, "bus rows 1 form 2 door 0 pace ^0");
        fault(4, "bus rows 1 form 2 door 0 pace ^10");
        fault(1, "bus rows 1 form 2 door 0 pace 9 rise 0^");
        fault(4, "bus rows 1 form 2 door 0 pace 1 rise ^10");
        fault(1, "bus rows 1 form 2 door 0 pace 1 rise 9^");
        fault(4, RULE + ";rider a on ^11 off 11");
        fault(1, RULE + ";rider a on 10 off 11^");
        fault(4, RULE + ";rider a on 10 off ^12");
        for (int on = 0; on <= 10; on++) {
            fault(4, RULE + ";rider a on " + on + " off ^" + on);
            fault(1, RULE + ";rider a on " + on + " off " + (on + 1) + "^");
        }
        fault(4, RULE + ";rider a on 3 off ^2");
        fault(4, RULE + ";rider a on 0 off 11 by r looks ^10");
        fault(1, RULE + ";rider a on 0 off 11 by r looks 9^");
        fault(4, RULE + ";rider a on 0 off 11 by r looks 0 age ^100");
        fault(6, RULE + ";rider a on 0 off 11 by r looks 0 age 99^");
        fault(4, RULE + ";" + RIDER + ";holds a row ^5 seat 0");
        fault(4, RULE + ";" + RIDER + ";holds a row 4 seat ^4");
        fault(6, RULE + ";" + RIDER + ";holds a row 4 seat 3^");
    }

    private static void many() {
        fault(5, "rule a far;rule b far;rule c far;rule d far;^rule e far");
        fault(5, "rule a far;rule b far;rule c far;rule d far;^rule a far");
        fault(5, "rule r far,back,like,shade,^alone");
        StringBuilder eight = new StringBuilder(RULE);
        for (char c = 'a'; c <= 'h'; c++) {
            eight.append(";rider ").append(c).append(" on 0 off 1 by r looks 0 age 0");
        }
        fault(6, eight + "^");
        fault(5, eight + ";^rider i on 0 off 1 by r looks 0 age 0");
        fault(5, eight + ";^rider 7");
        String three = eight + ";friends a,b;friends a,c;friends b,c";
        fault(5, three + ";^friends c,d");
        String four = three + ";holds a row 0 seat 0;holds b row 0 seat 0;holds c row 1 seat 0;holds d row 4 seat 3";
        fault(5, four + ";^holds e row 0 seat 0");
        BusSeats x = sound(four + ";rule s alone,far,window,aisle;rule t back,shade,like,friend;rule u front;" + BUS, 8);
        CHECK.is("rules at most", x.size(1), 4);
        CHECK.is("friends at most", x.size(2), 3);
        CHECK.is("holders at most", x.size(3), 4);
    }

    private static void lacks() {
        fault(6, BUS + "^");
        fault(6, RULE + "   ^");
        fault(6, BUS + ";" + RULE + "^");
        fault(6, RULE + ";" + RIDER + "^");
        sound(ALL + "  ", 1);
        sound(RULE + ";" + RIDER + ";" + BUS, 1);
        sound(ALL + " bag", 1);
        sound(ALL + " proud", 1);
        sound(ALL + " bag proud", 1);
    }

    private static void faultAt(int number, int place, String text) {
        fault(number, text.substring(0, place) + "^" + text.substring(place));
    }

    /** Each byte that there is, in places where some are let through: those next to letters, digits and signs, too. */
    private static void bytes() {
        for (int b = 0; b < 256; b++) {
            String c = String.valueOf((char) b);
            boolean blank = b == 32;
            boolean letter = b >= 97 && b <= 122;
            boolean digit = b >= 48 && b <= 57;
            faultAt(1, blank ? 1 : 0, c);
            faultAt(letter ? 6 : 1, letter ? 10 : blank ? 7 : 5, "rule " + c + " far");
            faultAt(letter ? 6 : 1, letter ? 12 : blank ? 7 : 6, "rule a" + c + "b far");
            boolean rows = b >= 49 && b <= 53;
            faultAt(digit && !rows ? 4 : 1, rows || blank ? 10 : 9, "bus rows " + c);
            faultAt(digit ? 4 : 1, digit ? 9 : blank ? 16 : 10, "bus rows 3" + c + " form");
            toldName("rule r far;rider a on 0 off 1 by ", c, 'r');
            toldName(RULE + ";" + RIDER + ";friends ", c, 'a');
            toldName(RULE + ";" + RIDER + ";holds ", c, 'a');
            boolean comma = b == 44;
            boolean end = b == 59;
            faultAt(comma ? 6 : 1, comma ? 15 : letter ? 7 : blank || end ? 11 : 10, "rule r far" + c + "back");
            if (blank) {
                sound(ALL + c, 1);
            } else {
                int length = ALL.length();
                faultAt(digit ? 4 : 1, digit ? length - 2 : end ? length + 1 : length, ALL + c);
            }
        }
    }

    /** A byte where a name that is told must stand: the one letter that is told, another one, or none. */
    private static void toldName(String ahead, String c, char told) {
        char it = c.charAt(0);
        boolean untold = it >= 97 && it <= 122 && it != told;
        faultAt(untold ? 2 : 1, ahead.length() + (it == told || it == 32 ? 1 : 0), ahead + c);
    }

    /** The place of each byte that a row of feed brings: the first number's highest is the first. */
    private static void bytesOfARow() {
        for (int place = 0; place < 20; place++) {
            for (int sign : new int[] {0, 31, 33, 127, 128, 255}) {
                int[] row = new int[5];
                for (int i = 0; i < 20; i++) {
                    row[i / 4] = row[i / 4] << 8 | (i == place ? sign : 32);
                }
                BusSeats x = new BusSeats();
                CHECK.is("feed", x.feed(row[0], row[1], row[2], row[3], row[4]), 20);
                CHECK.refused(x, "bus of " + sign + " in " + place, x.bus(20), 4);
                CHECK.is("fault of " + sign + " in " + place, x.fault(), 1);
                CHECK.is("where of " + sign + " in " + place, x.where(), place);
            }
        }
        // The greatest and the least number bring bytes as any other does.
        int[] utmost = {Integer.MAX_VALUE, Integer.MIN_VALUE, -1, 0, 1};
        for (int i = 0; i < 5; i++) {
            int[] row = {0x20202020, 0x20202020, 0x20202020, 0x20202020, 0x20202020};
            row[i] = utmost[i];
            BusSeats x = new BusSeats();
            CHECK.is("feed of " + utmost[i], x.feed(row[0], row[1], row[2], row[3], row[4]), 20);
            CHECK.refused(x, "bus of " + utmost[i], x.bus(20), 4);
            CHECK.is("where of " + utmost[i], x.where(), 4 * i);
        }
    }

    /** A tape that is full to its last byte: what does not fit changes none of them. */
    private static void fullTape() {
        String text = " ".repeat(900 - ALL.length()) + ALL;
        BusSeats x = new BusSeats();
        Check.feed(x, text);
        CHECK.is("900", x.size(9), 900);
        for (int i = 0; i < 3; i++) {
            CHECK.is("none comes", x.feed(-1, -1, -1, -1, -1), -1);
            CHECK.is("900 still", x.size(9), 900);
        }
        CHECK.refused(x, "bus of 901", x.bus(901), 2);
        CHECK.sound(x, "bus of 900", x.bus(900), 1);
        CHECK.is("empty", x.size(9), 0);
        Check.feed(x, text);
        CHECK.sound(x, "all but the last byte", x.bus(899), 1);
        CHECK.is("age without its last digit", x.rider(0, 4), 3);
    }

    /** As much of each sort of line as there is room for, in all of the tape's bytes. */
    private static void fullLines() {
        StringBuilder text = new StringBuilder("bus rows5form2door4pace9rise9sun right;rule abcdefgh alone,far,window,"
            + "aisle;rule on front,back,shade,like;rule off friend,like,shade,back;rule by far,alone,friend,aisle");
        String[] names = {"looks", "age", "rows", "row", "seat", "sun", "zzzzzzzz", "left"};
        for (int i = 0; i < 8; i++) {
            text.append(";rider ").append(names[i]).append(" on 010 off 011 by abcdefgh looks 009 age 099 bag proud");
        }
        text.append(";friends looks,age;friends age,rows;friends rows,looks");
        for (int i = 4; i < 8; i++) {
            text.append(";holds ").append(names[i]).append(" row 4 seat ").append(i - 4);
        }
        text.append(" ".repeat(900 - text.length()));
        BusSeats x = sound(text.toString(), 8);
        int[] sizes = {8, 4, 3, 4, 10, 0, 0, 0, 2, 0};
        for (int what = 0; what < 10; what++) {
            CHECK.is("size(" + what + ") of full lines", x.size(what), sizes[what]);
        }
        for (int r = 0; r < 8; r++) {
            int[] due = {10, 11, 0, 9, 99, 1, 1, r < 4 ? -2 : 16 + r - 4};
            for (int what = 0; what < 8; what++) {
                CHECK.is("rider(" + r + ", " + what + ") of full lines", x.rider(r, what), due[what]);
            }
        }
        // The least of all: one of each, the least numbers.
        BusSeats y = sound("bus rows 1 form 0 door 0 pace 1 rise 0 sun none;rule r friend;rider a on 0 off 1 by r looks 0"
            + " age 0", 1);
        int[] least = {0, 1, 0, 0, 0, 0, 0, -2};
        for (int what = 0; what < 8; what++) {
            CHECK.is("rider(0, " + what + ") of the least", y.rider(0, what), least[what]);
        }
        CHECK.is("way of the least", y.way(0, 0), 8);
        CHECK.is("no second way", y.way(0, 1), -1);
    }

    /** Words that stand in lines but are not kept are names as any other. */
    private static void freeWords() {
        for (String word : ("on off by looks age rows form door pace rise sun left right none row seat a z aaaaaaaa"
            + " zzzzzzzz buses rules riders friendss hold bags prouder alones fa").split(" ")) {
            String other = word.equals("a") ? "b" : "a";
            BusSeats x = sound(BUS + ";rule " + word + " far;rider " + other + " on 0 off 1 by " + word
                + " looks 0 age 0;holds " + other + " row 0 seat 2", 1);
            CHECK.is("holds by " + word, x.rider(0, 7), 2);
            String told = " on 0 off 1 by rr looks 0 age 0";
            BusSeats y = sound(BUS + ";rule rr far;rider " + word + told + ";rider " + other + told + ";friends " + word
                + "," + other + ";holds " + word + " row 1 seat 1", 2);
            CHECK.is("holds of " + word, y.rider(0, 7), 5);
        }
        fault(1, "rule ^aaaaaaaaa far");
        fault(1, RULE + ";rider ^aaaaaaaaa on 0");
        fault(1, RULE + ";rider a on 0 off 1 by ^rrrrrrrrr");
    }

    /** Numbers of one, two and three digits are told alike; one of four is no token, however small. */
    private static void digits() {
        BusSeats x = sound("bus rows 005 form 00 door 004 pace 09 rise 000 sun none;" + RULE
            + ";rider a on 007 off 08 by r looks 03 age 042;holds a row 004 seat 03", 1);
        CHECK.is("rows", x.size(4), 20);
        CHECK.is("on", x.rider(0, 0), 7);
        CHECK.is("off", x.rider(0, 1), 8);
        CHECK.is("looks", x.rider(0, 3), 3);
        CHECK.is("age", x.rider(0, 4), 42);
        CHECK.is("held", x.rider(0, 7), 19);
        CHECK.is("pace", x.layout(2, 3), 2 * 9 * (5 + 4 + 3 + 2 + 1));
        String[] ahead = {"bus rows ", "bus rows 1 form ", "bus rows 1 form 0 door ", "bus rows 1 form 0 door 0 pace ",
            "bus rows 1 form 0 door 0 pace 1 rise ", RULE + ";rider a on ", RULE + ";rider a on 0 off ",
            RULE + ";rider a on 0 off 1 by r looks ", RULE + ";rider a on 0 off 1 by r looks 0 age ",
            RULE + ";" + RIDER + ";holds a row ", RULE + ";" + RIDER + ";holds a row 0 seat "};
        for (String before : ahead) {
            fault(1, before + "^0001");
            fault(1, before + "^1000");
            fault(1, before + "^99999999999999999999");
            fault(1, before + "^4294967297");
            fault(4, before + "^999");
            fault(4, before + "^100");
            // A sign is no part of a number.
            fault(1, before + "^-1");
            fault(1, before + "^+1");
        }
    }

    /** Ways: each in each place of a rule, and each told again from each place. */
    private static void ways() {
        String[] all = {"alone", "far", "window", "aisle", "front", "back", "shade", "like", "friend"};
        for (int first = 0; first < 9; first++) {
            StringBuilder rule = new StringBuilder("rule r ");
            for (int i = 0; i < 4; i++) {
                int last = (first + i) % 9;
                rule.append(i == 0 ? "" : ", ").append(all[last]);
                BusSeats x = sound(BUS + ";" + rule + ";" + RIDER, 1);
                for (int w = 0; w <= i; w++) {
                    CHECK.is("way " + w + " of " + rule, x.way(0, w), (first + w) % 9);
                }
                CHECK.is("way behind the last of " + rule, x.way(0, i + 1), -1);
                for (int w = 0; w <= i; w++) {
                    fault(3, rule + ",^" + all[(first + w) % 9]);
                }
                fault(i == 3 ? 5 : 6, i == 3 ? rule + ",^" + all[(last + 1) % 9] : rule + "," + all[(last + 1) % 9] + "^");
            }
        }
    }

    /** Friends: two told again behind others, each of them with more friends than that one. */
    private static void friends() {
        String four = RULE;
        for (String name : new String[] {"a", "b", "c", "d"}) {
            four += ";" + RIDER.replace("a on", name + " on");
        }
        String pairs = four + ";friends a,b;friends a,c";
        fault(3, pairs + ";friends a,^b");
        fault(3, pairs + ";friends b,^a");
        fault(3, pairs + ";friends c,^a");
        fault(3, four + ";friends b,a;friends c,a;friends a,^b");
        fault(3, four + ";friends b,a;friends c,a;friends b,^a");
        fault(3, four + ";friends d,c;friends d,^c");
        fault(3, four + ";friends d,c;friends c,^d");
        fault(3, four + ";friends d,^d");
        fault(6, pairs + ";friends b,c^");
        sound(BUS + ";" + pairs + ";friends c,b", 4);
        // Told of a former bus, not of this one.
        BusSeats x = new BusSeats();
        for (int i = 0; i < 4; i++) {
            CHECK.sound(x, "friends anew", Check.tell(x, BUS + ";" + pairs + ";friends d,c;holds a row 0 seat 0"), 4);
            CHECK.is("three pairs", x.size(2), 3);
        }
    }

    /** Of two faults the first from the left, whatever their numbers. */
    private static void leftFirst() {
        fault(4, "bus rows ^6 form 7;;");
        fault(1, "bus rows 5 ^x 7;rule r far,far");
        fault(2, RULE + ";rider a on 0 off 1 by ^q looks 77 age 1000");
        fault(4, RULE + ";rider a on ^11 off 3 by q");
        fault(3, "rule r far,^far,near");
        fault(1, "rule r far,^near,far");
        fault(3, RULE + ";" + RIDER + ";rider ^a on 77");
        fault(5, "rule a far;rule b far;rule c far;rule d far;^rule bus far");
        fault(3, "rule a far;rule b far;rule c far;rule d far,^far;rule e far");
        fault(1, "rule r far^\u00ff;rule r far");
        fault(3, RULE + ";rule ^r far\u00ff");
        fault(2, RULE + ";" + RIDER + ";friends ^x,x");
        fault(2, RULE + ";" + RIDER + ";holds ^x row 9");
        // Of one place the least: the end is no place to go on from, and what lacks is met there, too.
        fault(1, BUS + ";^");
        fault(1, BUS + ";" + RULE + ";^");
        fault(1, BUS + ";" + RULE + ";rider^");
        fault(1, "rule r^");
    }

    public static void main(String[] args) {
        promise1();
        promise2();
        promise3();
        promises4And5();
        form();
        names();
        bounds();
        many();
        lacks();
        bytes();
        bytesOfARow();
        fullTape();
        fullLines();
        freeWords();
        digits();
        ways();
        friends();
        leftFirst();
        CHECK.end();
    }
}
