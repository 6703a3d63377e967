import java.util.ArrayList;
import java.util.Arrays;
import java.util.HashMap;
import java.util.List;
import java.util.Map;
import java.util.NoSuchElementException;
import java.util.TreeMap;
import java.util.TreeSet;
import java.util.regex.Matcher;
import java.util.regex.Pattern;

/** The document once more, in the plainest form and with the whole library: what BusSeats is held against. */
final class PlainBus {
    static final List<String> WAYS =
        List.of("alone", "far", "window", "aisle", "front", "back", "shade", "like", "friend");
    static final List<String> KEPT = List.of("bus", "rule", "rider", "friends", "holds", "bag", "proud");
    static final int NOT_ON = 100, STANDS = 101, OFF = 102;

    static final class Person {
        String name;
        int on, off, rule, looks, age, holds = -2;
        boolean bag, proud;
        TreeSet<Integer> friends = new TreeSet<>();
    }

    static final class Told {
        boolean bus;
        int rows, form, door, pace, rise;
        String sun;
        List<String> ruleNames = new ArrayList<>();
        List<List<String>> rules = new ArrayList<>();
        List<Person> riders = new ArrayList<>();
        int friendLines, holdLines;

        boolean seat(int form, int s) {
            int k = s % 4;
            return s >= 0 && s < 4 * rows && !(form == 1 && k == 1) && !(form == 2 && (k == 1 || k == 2));
        }

        TreeSet<Integer> seats() {
            TreeSet<Integer> all = new TreeSet<>();
            for (int s = 0; s < 20; s++) {
                if (seat(form, s)) {
                    all.add(s);
                }
            }
            return all;
        }

        int beside(int form, int s) {
            int[] mates = {1, 0, 3, 2};
            int mate = s - s % 4 + mates[s % 4];
            return seat(form, s) && seat(form, mate) ? mate : -2;
        }

        boolean window(int s) {
            return s % 4 == 0 || s % 4 == 3;
        }

        boolean aisle(int s) {
            return s % 4 == 1 || s % 4 == 2 || (s % 4 == 0 && form >= 1) || (s % 4 == 3 && form == 2);
        }
    }

    /** Somebody who sits: looks, and a number (a stranger's is 50). */
    record Sitter(int who, int looks) { }

    static final class State {
        TreeMap<Integer, Sitter> sits = new TreeMap<>();
        TreeMap<Integer, Integer> bags = new TreeMap<>();
        int[] at = new int[8];
        int[] looks = new int[8];
        int[] order = new int[8];
        // Each coming to sit: who, where.
        List<int[]> comings = new ArrayList<>();
        // At which coming a rider got up last; -1 while it sits.
        int[] until = new int[8];
        List<Integer> seconds = new ArrayList<>();
        int given;

        State copy() {
            State c = new State();
            c.sits.putAll(sits);
            c.bags.putAll(bags);
            c.at = at.clone();
            c.looks = looks.clone();
            c.order = order.clone();
            c.comings.addAll(comings);
            c.until = until.clone();
            c.seconds.addAll(seconds);
            c.given = given;
            return c;
        }
    }

    static final class Fault extends RuntimeException {
        final int number, place;

        Fault(int number, int place) {
            this.number = number;
            this.place = place;
        }
    }

    // ---------------------------------------------------------------- the text

    private record Token(char kind, String text, int place) { }

    private static final class Reading {
        final List<Token> tokens = new ArrayList<>();
        int i;
        final Told told = new Told();
        final Map<String, String> names = new HashMap<>();

        Reading(String text) {
            Matcher m = Pattern.compile(" +|([a-z]+)|([0-9]+)|([;,])|([^ ])", Pattern.DOTALL).matcher(text);
            while (m.find()) {
                if (m.group(1) != null) {
                    tokens.add(new Token(m.group(1).length() <= 8 ? 'w' : '?', m.group(1), m.start()));
                } else if (m.group(2) != null) {
                    tokens.add(new Token(m.group(2).length() <= 3 ? 'n' : '?', m.group(2), m.start()));
                } else if (m.group(3) != null) {
                    tokens.add(new Token(m.group(3).charAt(0), m.group(3), m.start()));
                } else if (m.group(4) != null) {
                    tokens.add(new Token('?', m.group(4), m.start()));
                }
            }
            tokens.add(new Token('$', "", text.length()));
        }

        Token peek() {
            return tokens.get(i);
        }

        RuntimeException bad(int number) {
            return new Fault(number, peek().place);
        }

        boolean is(String word) {
            return peek().kind == 'w' && peek().text.equals(word);
        }

        void word(String word) {
            if (!is(word)) {
                throw bad(1);
            }
            i++;
        }

        int whole(int least, int most) {
            if (peek().kind != 'n') {
                throw bad(1);
            }
            int n = Integer.parseInt(peek().text);
            if (n < least || n > most) {
                throw bad(4);
            }
            i++;
            return n;
        }

        String name() {
            if (peek().kind != 'w' || KEPT.contains(peek().text) || WAYS.contains(peek().text)) {
                throw bad(1);
            }
            return peek().text;
        }

        String newName(String sort) {
            String n = name();
            if (names.putIfAbsent(n, sort) != null) {
                throw bad(3);
            }
            i++;
            return n;
        }

        String oldName(String sort) {
            String n = name();
            if (!sort.equals(names.get(n))) {
                throw bad(2);
            }
            return n;
        }

        int riderIndex(String n) {
            for (int r = 0; r < told.riders.size(); r++) {
                if (told.riders.get(r).name.equals(n)) {
                    return r;
                }
            }
            throw new AssertionError(n);
        }

        Told all() {
            while (true) {
                line();
                if (peek().kind == '$') {
                    break;
                }
                if (peek().kind != ';') {
                    throw bad(1);
                }
                i++;
            }
            if (!told.bus || told.rules.isEmpty() || told.riders.isEmpty()) {
                throw bad(6);
            }
            return told;
        }

        void line() {
            if (is("bus")) {
                if (told.bus) {
                    throw bad(3);
                }
                i++;
                told.bus = true;
                word("rows");
                told.rows = whole(1, 5);
                word("form");
                told.form = whole(0, 2);
                word("door");
                told.door = whole(0, told.rows - 1);
                word("pace");
                told.pace = whole(1, 9);
                word("rise");
                told.rise = whole(0, 9);
                word("sun");
                if (!is("left") && !is("right") && !is("none")) {
                    throw bad(1);
                }
                told.sun = peek().text;
                i++;
            } else if (is("rule")) {
                rule();
            } else if (is("rider")) {
                rider();
            } else if (is("friends")) {
                if (told.friendLines == 3) {
                    throw bad(5);
                }
                i++;
                int a = riderIndex(oldName("rider"));
                i++;
                if (peek().kind != ',') {
                    throw bad(1);
                }
                i++;
                int b = riderIndex(oldName("rider"));
                if (a == b || told.riders.get(a).friends.contains(b)) {
                    throw bad(3);
                }
                i++;
                told.riders.get(a).friends.add(b);
                told.riders.get(b).friends.add(a);
                told.friendLines++;
            } else if (is("holds")) {
                if (told.holdLines == 4) {
                    throw bad(5);
                }
                i++;
                Person p = told.riders.get(riderIndex(oldName("rider")));
                if (p.holds != -2) {
                    throw bad(3);
                }
                i++;
                word("row");
                int row = whole(0, 4);
                word("seat");
                p.holds = 4 * row + whole(0, 3);
                told.holdLines++;
            } else {
                throw bad(1);
            }
        }

        void rule() {
            if (told.rules.size() == 4) {
                throw bad(5);
            }
            i++;
            String n = newName("rule");
            List<String> ways = new ArrayList<>();
            while (true) {
                if (peek().kind != 'w' || !WAYS.contains(peek().text)) {
                    throw bad(1);
                }
                if (ways.contains(peek().text)) {
                    throw bad(3);
                }
                if (ways.size() == 4) {
                    throw bad(5);
                }
                ways.add(peek().text);
                i++;
                if (peek().kind != ',') {
                    break;
                }
                i++;
            }
            told.ruleNames.add(n);
            told.rules.add(ways);
        }

        void rider() {
            if (told.riders.size() == 8) {
                throw bad(5);
            }
            i++;
            Person p = new Person();
            p.name = newName("rider");
            word("on");
            p.on = whole(0, 10);
            word("off");
            p.off = whole(p.on + 1, 11);
            word("by");
            p.rule = told.ruleNames.indexOf(oldName("rule"));
            i++;
            word("looks");
            p.looks = whole(0, 9);
            word("age");
            p.age = whole(0, 99);
            if (is("bag")) {
                p.bag = true;
                i++;
            }
            if (is("proud")) {
                p.proud = true;
                i++;
            }
            told.riders.add(p);
        }
    }

    // ---------------------------------------------------------------- the object

    private final StringBuilder tape = new StringBuilder();
    private Told told;
    private State now;
    private final List<State> marks = new ArrayList<>();
    private final List<int[]> films = new ArrayList<>();
    private int trouble, fault, where = -1;

    private static final class Refused extends RuntimeException {
        final int number;

        Refused(int number) {
            super(null, null, false, false);
            this.number = number;
        }
    }

    private static void need(boolean so, int number) {
        if (!so) {
            throw new Refused(number);
        }
    }

    /** One call by its name, as answered (a boolean counts 1 or 0; MIN_VALUE for an exception thrown). */
    long call(String name, int... a) {
        switch (name) {
            case "feed": return feed(a);
            case "fault": return fault;
            case "where": return trouble == 4 ? where : -1;
            case "trouble": return trouble;
            case "rider": return seen(a[0], a[1]);
            case "way":
                return told == null || a[0] < 0 || a[0] >= told.rules.size() || a[1] < 0
                    || a[1] >= told.rules.get(a[0]).size() ? -1 : WAYS.indexOf(told.rules.get(a[0]).get(a[1]));
            case "led": return led(a[0]);
            case "size": return size(a[0]);
            default:
                break;
        }
        try {
            long answer = refusable(name, a);
            trouble = 0;
            return answer;
        } catch (Refused r) {
            trouble = r.number;
            return name.equals("sorted") ? -1000 : name.equals("back") ? 0 : -1;
        }
    }

    private long refusable(String name, int... a) {
        switch (name) {
            case "bus": return bus(a[0]);
            case "alone":
                need(a[0] >= 1 && a[0] <= 40 && a[1] >= 0 && a[1] <= 40, 2);
                return apart(a[0], a[1]);
            case "full":
                need(a[0] >= 1 && a[0] <= 40, 2);
                return most(a[0]);
            case "fewest":
                need(a[0] >= 1 && a[0] <= 40, 2);
                return least(a[0]);
            default:
                break;
        }
        need(told != null, 1);
        switch (name) {
            case "stop":
                need(now.seconds.size() < 12, 6);
                stop(now);
                return now.seconds.get(now.seconds.size() - 1);
            case "run": {
                int sum = 0;
                while (now.seconds.size() < 12) {
                    stop(now);
                    sum += now.seconds.get(now.seconds.size() - 1);
                }
                return sum;
            }
            case "seconds":
                need(a[0] >= 0 && a[0] < now.seconds.size(), 1);
                return now.seconds.get(a[0]);
            case "at":
                needRider(a[0]);
                return now.at[a[0]];
            case "sits":
                needSeat(a[0]);
                return now.sits.containsKey(a[0]) ? now.sits.get(a[0]).who : -2;
            case "bag":
                needSeat(a[0]);
                return now.bags.getOrDefault(a[0], -2);
            case "standing": {
                int bits = 0;
                for (int r : standing(now)) {
                    bits += 1 << r;
                }
                return bits;
            }
            case "free": {
                int bits = 0;
                for (int s : free(now)) {
                    bits += 1 << s;
                }
                return bits;
            }
            case "order":
                needRider(a[0]);
                need(now.order[a[0]] != 0, 6);
                return now.order[a[0]];
            case "shunned":
                needRider(a[0]);
                need(now.order[a[0]] != 0, 6);
                return shunned(now, a[0]);
            case "given": return now.given;
            case "sorted": return sorted();
            case "mark":
                need(marks.size() < 4, 3);
                marks.add(now.copy());
                return marks.size() - 1;
            case "back":
                need(a[0] >= 0 && a[0] < marks.size(), 1);
                now = marks.get(a[0]).copy();
                return 1;
            default: return more(name, a);
        }
    }

    private long more(String name, int... a) {
        switch (name) {
            case "choice":
                needRider(a[0]);
                need(now.at[a[0]] == NOT_ON || now.at[a[0]] == STANDS, 5);
                return choose(now, a[0]);
            case "ties":
                needRider(a[0]);
                need(now.at[a[0]] == NOT_ON || now.at[a[0]] == STANDS, 5);
                return tied(now, a[0]).size();
            case "odds":
                needRider(a[0]);
                needSeat(a[1]);
                need(boarding().size() <= 4, 3);
                need(told.riders.get(a[0]).on == now.seconds.size(), 5);
                return odds(a[0], a[1]);
            case "ways":
                need(now.seconds.size() < 12, 6);
                need(boarding().size() <= 4, 3);
                return new long[] {1, 27720L, 27720L * 27720, 27720L * 27720 * 27720,
                    27720L * 27720 * 27720 * 27720}[boarding().size()];
            case "monday":
                needSeat(a[0]);
                return monday(a[0]);
            case "doorway":
                needRider(a[0]);
                needRider(a[1]);
                need(a[0] != a[1], 1);
                need(now.at[a[0]] == STANDS && now.at[a[1]] == STANDS, 5);
                return doorway(a[0], a[1]);
            case "film": {
                needSeat(a[1]);
                for (int s = 0; s < 32; s++) {
                    if ((a[0] & 1 << s) != 0) {
                        need(told.seat(told.form, s) && s != a[1], 2);
                    }
                }
                need(films.size() < 12, 3);
                films.add(new int[] {a[0], a[1]});
                return films.size();
            }
            case "agrees":
                need(a[0] >= 0 && a[0] < told.rules.size(), 1);
                return agrees(a[0]);
            case "likely": {
                need(!films.isEmpty(), 6);
                int top = 0;
                for (int i = 1; i < told.rules.size(); i++) {
                    top = agrees(i) > agrees(top) ? i : top;
                }
                return top;
            }
            case "dealt":
                needRider(a[0]);
                need(told.riders.size() <= 6, 3);
                return dealt(a[0]);
            case "deals":
                need(told.riders.size() <= 6, 3);
                return new int[] {1, 1, 2, 6, 24, 120, 720}[told.riders.size()];
            case "layout":
                need(a[0] >= 0 && a[0] <= 2 && a[1] >= 0 && a[1] <= 3, 1);
                return layout(a[0], a[1]);
            case "beats":
                need(a[0] >= 0 && a[0] <= 2 && a[1] >= 0 && a[1] <= 2 && a[0] != a[1], 1);
                return beats(a[0], a[1]) ? 1 : 0;
            case "unbeaten": {
                int bits = 0;
                for (int f = 0; f < 3; f++) {
                    boolean beaten = false;
                    for (int g = 0; g < 3; g++) {
                        beaten |= f != g && beats(g, f);
                    }
                    bits += beaten ? 0 : 1 << f;
                }
                return bits;
            }
            case "seat": return seat(a[0], a[1]);
            default: throw new AssertionError(name);
        }
    }

    private void needRider(int r) {
        need(r >= 0 && r < told.riders.size(), 1);
    }

    private void needSeat(int s) {
        need(s >= 0 && s < 20 && told.seat(told.form, s), 1);
    }

    private long feed(int[] a) {
        if (tape.length() > 880) {
            return -1;
        }
        for (int number : a) {
            for (int shift : new int[] {24, 16, 8, 0}) {
                tape.append((char) (number >> shift & 255));
            }
        }
        return tape.length();
    }

    private long bus(int n) {
        need(n >= 0 && n <= tape.length(), 2);
        String text = tape.substring(0, n);
        tape.setLength(0);
        try {
            told = new Reading(text).all();
        } catch (Fault f) {
            fault = f.number;
            where = f.place;
            throw new Refused(4);
        }
        fault = 0;
        now = fresh();
        marks.clear();
        films.clear();
        return told.riders.size();
    }

    private State fresh() {
        State s = new State();
        Arrays.fill(s.at, NOT_ON);
        for (int r = 0; r < told.riders.size(); r++) {
            s.looks[r] = told.riders.get(r).looks;
        }
        return s;
    }

    private long seen(int r, int what) {
        if (told == null || r < 0 || r >= told.riders.size() || what < 0 || what > 7) {
            return -1;
        }
        Person p = told.riders.get(r);
        return new int[] {p.on, p.off, p.rule, p.looks, p.age, p.bag ? 1 : 0, p.proud ? 1 : 0, p.holds}[what];
    }

    private long led(int i) {
        try {
            if (told == null || i < 0 || i >= standing(now).size()) {
                throw new NoSuchElementException();
            }
            return standing(now).get(i);
        } catch (NoSuchElementException e) {
            return Long.MIN_VALUE;
        }
    }

    private long size(int what) {
        if (what < 0 || what > 9) {
            return -1;
        }
        if (what == 9) {
            return tape.length();
        }
        if (told == null) {
            return 0;
        }
        return new int[] {told.riders.size(), told.rules.size(), told.friendLines, told.holdLines,
            told.seats().size(), now.seconds.size(), marks.size(), films.size(), told.form}[what];
    }

    private long seat(int s, int what) {
        need(s >= 0 && s < 4 * told.rows && what >= 0 && what <= 3, 1);
        boolean is = told.seat(told.form, s);
        need(is || what == 0, 1);
        switch (what) {
            case 0: return is ? 1 : 0;
            case 1: return told.window(s) ? 1 : 0;
            case 2: return told.aisle(s) ? 1 : 0;
            default: return told.beside(told.form, s);
        }
    }

    // ---------------------------------------------------------------- choosing, stops

    private List<Integer> standing(State st) {
        List<Integer> all = new ArrayList<>();
        for (int r = 0; r < told.riders.size(); r++) {
            if (st.at[r] == STANDS) {
                all.add(r);
            }
        }
        return all;
    }

    private TreeSet<Integer> free(State st) {
        TreeSet<Integer> all = told.seats();
        all.removeAll(st.sits.keySet());
        all.removeAll(st.bags.keySet());
        return all;
    }

    /** How good a seat is by one way, the greater the better. */
    private int good(String way, int s, Map<Integer, Sitter> sits, int looks, TreeSet<Integer> friends) {
        Sitter by = sits.get(told.beside(told.form, s));
        switch (way) {
            case "alone": return by == null ? 1 : 0;
            case "far":
                return sits.keySet().stream()
                    .mapToInt(t -> 2 * Math.abs(t / 4 - s / 4) + Math.abs(t % 4 - s % 4)).min().orElse(99);
            case "window": return told.window(s) ? 1 : 0;
            case "aisle": return told.aisle(s) ? 1 : 0;
            case "front": return 10 - s / 4;
            case "back": return s / 4;
            case "shade":
                return told.sun.equals("left") && s % 4 <= 1 || told.sun.equals("right") && s % 4 >= 2 ? 0 : 1;
            case "like": return by == null ? -5 : -Math.abs(looks - by.looks);
            default: return by != null && friends.contains(by.who) ? 1 : 0;
        }
    }

    private TreeSet<Integer> bestOf(int rule, TreeSet<Integer> from, Map<Integer, Sitter> sits, int looks,
            TreeSet<Integer> friends) {
        TreeSet<Integer> left = from;
        for (String way : told.rules.get(rule)) {
            TreeMap<Integer, TreeSet<Integer>> byWorth = new TreeMap<>();
            for (int s : left) {
                byWorth.computeIfAbsent(good(way, s, sits, looks, friends), x -> new TreeSet<>()).add(s);
            }
            left = byWorth.isEmpty() ? left : byWorth.lastEntry().getValue();
        }
        return left;
    }

    private TreeSet<Integer> best(State st, int r) {
        Person p = told.riders.get(r);
        TreeSet<Integer> open = free(st);
        if (open.contains(p.holds)) {
            return new TreeSet<>(List.of(p.holds));
        }
        if (open.isEmpty()) {
            open = new TreeSet<>(st.bags.keySet());
        }
        return bestOf(p.rule, open, st.sits, st.looks[r], p.friends);
    }

    private int choose(State st, int r) {
        Person p = told.riders.get(r);
        TreeSet<Integer> best = best(st, r);
        if (best.isEmpty()) {
            return -2;
        }
        int s = best.first();
        return p.proud && p.holds != s && st.sits.containsKey(told.beside(told.form, s)) ? -2 : s;
    }

    private TreeSet<Integer> tied(State st, int r) {
        return choose(st, r) == -2 ? new TreeSet<>() : best(st, r);
    }

    private void sit(State st, int r, int s) {
        st.bags.remove(s);
        st.at[r] = s;
        st.sits.put(s, new Sitter(r, st.looks[r]));
        st.comings.add(new int[] {r, s});
        st.order[r] = st.comings.size();
        st.until[r] = -1;
        int by = told.beside(told.form, s);
        if (told.riders.get(r).bag && free(st).contains(by)) {
            st.bags.put(by, r);
        }
    }

    private void rise(State st, int r, int then) {
        if (st.at[r] < 20) {
            st.sits.remove(st.at[r]);
            st.bags.values().removeIf(owner -> owner == r);
            st.until[r] = st.comings.size();
        }
        st.at[r] = then;
    }

    private int shunned(State st, int r) {
        int from = st.order[r];
        int to = st.until[r] < 0 ? st.comings.size() : st.until[r];
        int beside = told.beside(told.form, st.comings.get(from - 1)[1]);
        for (int i = from; i < to; i++) {
            if (st.comings.get(i)[1] == beside) {
                return i - from;
            }
        }
        return 99;
    }

    private void firstThree(State st) {
        int s = st.seconds.size();
        int took = 0;
        List<Integer> leaving = new ArrayList<>();
        for (int r = 0; r < told.riders.size(); r++) {
            if (told.riders.get(r).off == s) {
                leaving.add(r);
            }
        }
        for (int r : leaving) {
            int seat = st.at[r];
            if (seat == STANDS) {
                took += told.pace;
                continue;
            }
            took += told.pace * (1 + Math.abs(seat / 4 - told.door));
            Sitter by = st.sits.get(told.beside(told.form, seat));
            if (told.window(seat) && !told.aisle(seat) && by != null && !leaving.contains(by.who)) {
                took += told.rise;
            }
        }
        for (int r : leaving) {
            rise(st, r, OFF);
        }
        if (!leaving.isEmpty()) {
            took += standing(st).size();
        }
        st.seconds.add(took);
        TreeSet<Integer> gave = new TreeSet<>();
        for (int r : standing(st)) {
            if (told.riders.get(r).age < 65) {
                continue;
            }
            int giver = -1;
            for (int q = told.riders.size() - 1; q >= 0; q--) {
                int age = told.riders.get(q).age;
                if (st.at[q] < 20 && age < 40 && (giver < 0 || age <= told.riders.get(giver).age)) {
                    giver = q;
                }
            }
            if (giver >= 0) {
                int seat = st.at[giver];
                rise(st, giver, STANDS);
                gave.add(giver);
                st.given++;
                sit(st, r, seat);
            }
        }
        for (int r : standing(st)) {
            if (!gave.contains(r)) {
                settle(st, r);
            }
        }
    }

    private void settle(State st, int r) {
        int s = choose(st, r);
        if (s == -2) {
            st.at[r] = STANDS;
        } else {
            sit(st, r, s);
        }
    }

    private void stop(State st) {
        int s = st.seconds.size();
        firstThree(st);
        for (int r = 0; r < told.riders.size(); r++) {
            if (told.riders.get(r).on == s) {
                settle(st, r);
            }
        }
    }

    private int sorted() {
        int sum = 0;
        for (int s : now.sits.keySet()) {
            int by = told.beside(told.form, s);
            if (told.aisle(s) && now.sits.containsKey(by)) {
                int aisleOff = told.riders.get(now.sits.get(s).who).off;
                int windowOff = told.riders.get(now.sits.get(by).who).off;
                sum += aisleOff <= windowOff ? 1 : -1;
            }
        }
        return sum;
    }

    // ---------------------------------------------------------------- the rest of term III

    private List<Integer> boarding() {
        List<Integer> all = new ArrayList<>();
        for (int r = 0; r < told.riders.size(); r++) {
            if (told.riders.get(r).on == now.seconds.size()) {
                all.add(r);
            }
        }
        return all;
    }

    private long odds(int rider, int seat) {
        List<Integer> who = boarding();
        State st = now.copy();
        firstThree(st);
        return oddsFrom(st, who, 0, 1, rider, seat);
    }

    private long oddsFrom(State st, List<Integer> who, int i, long weight, int rider, int seat) {
        if (i == who.size()) {
            return st.at[rider] == seat ? weight : 0;
        }
        List<Integer> ties = new ArrayList<>(tied(st, who.get(i)));
        if (ties.isEmpty()) {
            State next = st.copy();
            next.at[who.get(i)] = STANDS;
            return oddsFrom(next, who, i + 1, weight * 27720, rider, seat);
        }
        if (ties.size() > 12) {
            ties = ties.subList(0, 12);
        }
        long sum = 0;
        for (int s : ties) {
            State next = st.copy();
            sit(next, who.get(i), s);
            sum += oddsFrom(next, who, i + 1, weight * (27720 / ties.size()), rider, seat);
        }
        return sum;
    }

    private int monday(int seat) {
        TreeMap<Integer, Sitter> sits = new TreeMap<>(now.sits);
        TreeSet<Integer> open = told.seats();
        Sitter comer = new Sitter(50, 5);
        int driven = 0;
        while (true) {
            open.remove(seat);
            Sitter out = sits.put(seat, comer);
            if (out == null) {
                return driven;
            }
            driven++;
            Person p = told.riders.get(out.who);
            TreeSet<Integer> best = bestOf(p.rule, open, sits, out.looks, p.friends);
            if (best.isEmpty()) {
                return driven;
            }
            seat = best.first();
            comer = out;
        }
    }

    private int doorCost(int r, boolean door, boolean otherDoor) {
        int stops = 0;
        for (int s = now.seconds.size(); s <= told.riders.get(r).off; s++) {
            stops++;
        }
        return door ? told.pace * stops * (otherDoor ? 2 : 1)
            : told.pace * (1 + told.rows) + told.rise + (otherDoor ? told.rise : 0);
    }

    private int doorway(int a, int b) {
        int sum = 0;
        boolean[][] four = {{true, true}, {true, false}, {false, true}, {false, false}};
        for (int i = 0; i < 4; i++) {
            boolean x = four[i][0];
            boolean y = four[i][1];
            if (doorCost(a, x, y) <= doorCost(a, !x, y) && doorCost(b, y, x) <= doorCost(b, !y, x)) {
                sum += 1 << i;
            }
        }
        return sum;
    }

    private int agrees(int rule) {
        int sum = 0;
        for (int[] f : films) {
            TreeMap<Integer, Sitter> sits = new TreeMap<>();
            TreeSet<Integer> open = told.seats();
            for (int s = 0; s < 20; s++) {
                if ((f[0] & 1 << s) != 0) {
                    sits.put(s, new Sitter(50, 5));
                    open.remove(s);
                }
            }
            sum += bestOf(rule, open, sits, 5, new TreeSet<>()).contains(f[1]) ? 1 : 0;
        }
        return sum;
    }

    private int shunnedBy(List<Integer> looks, int rider) {
        State st = fresh();
        for (int r = 0; r < looks.size(); r++) {
            st.looks[r] = looks.get(r);
        }
        for (int s = 0; s < 12; s++) {
            stop(st);
        }
        return st.order[rider] == 0 ? -1 : shunned(st, rider);
    }

    private int dealt(int rider) {
        List<Integer> looks = new ArrayList<>();
        for (Person p : told.riders) {
            looks.add(p.looks);
        }
        int asTold = shunnedBy(looks, rider);
        need(asTold >= 0, 5);
        return deal(new ArrayList<>(), looks, rider, asTold);
    }

    private int deal(List<Integer> out, List<Integer> left, int rider, int asTold) {
        if (left.isEmpty()) {
            return shunnedBy(out, rider) >= asTold ? 1 : 0;
        }
        int sum = 0;
        for (int i = 0; i < left.size(); i++) {
            List<Integer> more = new ArrayList<>(out);
            more.add(left.get(i));
            List<Integer> fewer = new ArrayList<>(left);
            fewer.remove(i);
            sum += deal(more, fewer, rider, asTold);
        }
        return sum;
    }

    private static long apart(int n, int k) {
        if (k == 0) {
            return 1;
        }
        if (n <= 0) {
            return 0;
        }
        long[][] w = new long[n + 1][k + 1];
        for (int i = 0; i <= n; i++) {
            w[i][0] = 1;
            for (int j = 1; j <= k && i > 0; j++) {
                w[i][j] = w[i - 1][j] + (i >= 2 ? w[i - 2][j - 1] : j == 1 ? 1 : 0);
            }
        }
        return w[n][k];
    }

    private static int most(int n) {
        int k = 0;
        while (apart(n, k + 1) > 0) {
            k++;
        }
        return k;
    }

    private static int least(int n) {
        // f[i]: fewest on places 1 .. i with the last one sitting at i and no gap so far that seats one more.
        int[] f = new int[n + 3];
        Arrays.fill(f, 99);
        int least = 99;
        for (int i = 1; i <= n; i++) {
            f[i] = i <= 2 ? 1 : 99;
            for (int gap = 2; gap <= 3 && i - gap >= 1; gap++) {
                f[i] = Math.min(f[i], f[i - gap] + 1);
            }
            if (i >= n - 1) {
                least = Math.min(least, f[i]);
            }
        }
        return least;
    }

    private int layout(int form, int what) {
        int sum = 0;
        for (int s = 0; s < 4 * told.rows; s++) {
            if (told.seat(form, s)) {
                switch (what) {
                    case 0: sum++; break;
                    case 1: sum += told.window(s) ? 1 : 0; break;
                    case 2: sum += told.beside(form, s) == -2 ? 1 : 0; break;
                    default: sum += told.pace * (1 + Math.abs(s / 4 - told.door));
                }
            }
        }
        return sum;
    }

    private boolean beats(int f, int g) {
        boolean noWorse = layout(f, 3) <= layout(g, 3);
        boolean better = layout(f, 3) < layout(g, 3);
        for (int what = 0; what < 3; what++) {
            noWorse &= layout(f, what) >= layout(g, what);
            better |= layout(f, what) > layout(g, what);
        }
        return noWorse && better;
    }
}
