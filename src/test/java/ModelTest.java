import java.lang.reflect.InvocationTargetException;
import java.lang.reflect.Method;
import java.util.ArrayList;
import java.util.HashMap;
import java.util.List;
import java.util.Map;
import java.util.NoSuchElementException;
import java.util.Random;

/** Runs by a fixed seed, sound and wrong calls mixed, each answer held against that of PlainBus. */
public final class ModelTest {
    private static final int RUNS = 2500;
    // What later calls answer is free.
    private static final int MOST_CALLS = 512;
    private static final int CROWD_STOPS = 3;

    private final Random random;
    private final Map<String, Method> methods = new HashMap<>();
    private final List<String> names = new ArrayList<>();
    private int calls;

    private ModelTest(long seed) {
        random = new Random(seed);
        for (Method m : BusSeats.class.getMethods()) {
            if (m.getDeclaringClass() == BusSeats.class) {
                methods.put(m.getName(), m);
                names.add(m.getName());
            }
        }
        names.sort(null);
        names.remove("feed");
        names.remove("bus");
        // The dear ones come seldom, the ones that move on often.
        for (int i = 0; i < 6; i++) {
            names.add("stop");
            names.add("choice");
            names.add("ties");
            names.add("shunned");
            names.add("monday");
            names.add("film");
            names.add("doorway");
        }
    }

    private int upTo(int n) {
        return random.nextInt(n + 1);
    }

    private boolean chance(int percent) {
        return random.nextInt(100) < percent;
    }

    private <T> T of(List<T> list) {
        return list.get(random.nextInt(list.size()));
    }

    private String bus() {
        int rows = 1 + upTo(chance(60) ? 1 : 4);
        return "bus rows " + rows + " form " + upTo(2) + " door " + upTo(rows - 1) + " pace " + (1 + upTo(8))
            + " rise " + upTo(9) + " sun " + of(List.of("left", "right", "none"));
    }

    private String rule(String name) {
        List<String> ways = new ArrayList<>();
        int count = 1 + upTo(3);
        while (ways.size() < count) {
            String way = of(PlainBus.WAYS);
            if (!ways.contains(way)) {
                ways.add(way);
            }
        }
        return "rule " + name + " " + String.join(",", ways);
    }

    private String text() {
        List<String> lines = new ArrayList<>();
        List<String> rules = new ArrayList<>(List.of("r", "on", "rows", "abcdefgh")).subList(0, 1 + upTo(3));
        List<String> riders =
            List.of("ada", "bo", "cy", "by", "left", "age", "hij", "zzzzzzzz").subList(0, 1 + upTo(chance(50) ? 5 : 7));
        for (String rule : rules) {
            lines.add(rule(rule));
        }
        boolean rush = chance(50);
        for (String rider : riders) {
            int on = upTo(rush ? 2 : 10);
            lines.add("rider " + rider + " on " + on + " off " + (on + 1 + upTo(10 - on)) + " by " + of(rules)
                + " looks " + upTo(9) + " age " + (chance(30) ? 65 + upTo(34) : upTo(70))
                + (chance(40) ? " bag" : "") + (chance(25) ? " proud" : ""));
        }
        List<String> pairs = new ArrayList<>();
        for (int i = upTo(3); i > 0 && riders.size() > 1; i--) {
            String a = of(riders);
            String b = of(riders);
            if (!a.equals(b) && !pairs.contains(a + b) && !pairs.contains(b + a)) {
                pairs.add(a + b);
                lines.add("friends " + a + ", " + b);
            }
        }
        List<String> holders = new ArrayList<>(riders);
        java.util.Collections.shuffle(holders, random);
        for (int i = Math.min(upTo(4), holders.size()) - 1; i >= 0; i--) {
            lines.add("holds " + holders.get(i) + " row " + upTo(chance(70) ? 1 : 4) + " seat " + upTo(3));
        }
        lines.add(upTo(lines.size()), bus());
        return String.join(chance(50) ? ";" : " ; ", lines);
    }

    /** A text with something changed, so that most kinds of fault come about. */
    private String spoilt(String text) {
        List<String> words = new ArrayList<>(List.of(text.split(" ")));
        List<String> alien = List.of("ada", "r", "bus", "rule r", "rider", "friends ada, bo", "holds ada row 0 seat 0",
            "bag", "proud", "12", "7", "100", "1000", "abcdefghi", ",", ";", ";;", "alone", "far", "left", "", "A",
            "\u00e9", "\n", "; bus", "; rule", "; rule zz far", "; rider q on 0 off 1 by r looks 1 age 1", ", back",
            "; friends bo, ada", "; holds bo row 4 seat 3");
        int i = random.nextInt(words.size());
        switch (upTo(3)) {
            case 0:
                words.set(i, of(alien));
                break;
            case 1:
                words.add(i, of(alien));
                break;
            case 2:
                words.remove(i);
                break;
            default:
                words.add(of(alien));
        }
        String all = String.join(" ", words);
        return chance(20) ? all.substring(0, random.nextInt(all.length() + 1)) : all;
    }

    private int number() {
        int n = upTo(99);
        return n < 60 ? upTo(7) : n < 90 ? upTo(21) : n < 95 ? -1 - upTo(3) : random.nextInt();
    }

    private int[] arguments(String name, int count) {
        int[] a = new int[count];
        for (int i = 0; i < count; i++) {
            a[i] = number();
        }
        if (name.equals("film") && chance(90)) {
            // Bits of the first rows, most of them of seats that are.
            a[0] = random.nextInt() & random.nextInt() & 0x99;
        }
        if (name.equals("alone") || name.equals("full") || name.equals("fewest")) {
            for (int i = 0; i < count; i++) {
                a[i] = upTo(43) - 1;
            }
        }
        return a;
    }

    private long answer(BusSeats x, String name, int[] a) {
        try {
            Object[] boxed = new Object[a.length];
            for (int i = 0; i < a.length; i++) {
                boxed[i] = a[i];
            }
            Object got = methods.get(name).invoke(x, boxed);
            return got instanceof Boolean b ? (b ? 1 : 0) : ((Number) got).longValue();
        } catch (InvocationTargetException e) {
            if (e.getCause() instanceof NoSuchElementException) {
                return Long.MIN_VALUE;
            }
            throw new IllegalStateException(name, e.getCause());
        } catch (IllegalAccessException e) {
            throw new IllegalStateException(e);
        }
    }

    private void both(Check check, BusSeats x, PlainBus plain, String text, String name, int... a) {
        calls += 3;
        if (calls > MOST_CALLS) {
            return;
        }
        String what = name + java.util.Arrays.toString(a) + " of " + text;
        check.is(what, answer(x, name, a), plain.call(name, a));
        check.is("trouble behind " + what, x.trouble(), plain.call("trouble"));
        check.is("where behind " + what, x.where(), plain.call("where"));
    }

    private void tell(Check check, BusSeats x, PlainBus plain, String text) {
        for (int[] row : Check.rows(text)) {
            calls++;
            if (calls <= MOST_CALLS) {
                check.is("feed of " + text, answer(x, "feed", row), plain.call("feed", row));
            }
        }
        both(check, x, plain, text, "bus", chance(95) ? text.length() : number());
        both(check, x, plain, text, "fault");
    }

    private void run(Check check) {
        BusSeats x = new BusSeats();
        PlainBus plain = new PlainBus();
        String text = "";
        int dear = 0;
        for (int call = 0; calls < MOST_CALLS; call++) {
            if (call == 5 || chance(1)) {
                text = text();
                if (chance(40)) {
                    text = spoilt(text);
                }
                tell(check, x, plain, text);
            }
            String name = of(names);
            if (name.equals("run") && chance(80) || (name.equals("dealt") || name.equals("odds")) && dear++ > 6) {
                continue;
            }
            both(check, x, plain, text, name, arguments(name, methods.get(name).getParameterCount()));
        }
    }

    /** Small buses where few come on at a time, many of them proud: odds of each rider, stop by stop. */
    private String crowdText() {
        List<String> riders = List.of("ada", "bo", "cy", "di", "ed", "flo", "gus").subList(0, 2 + upTo(5));
        List<String> lines = new ArrayList<>(List.of("bus rows " + (1 + upTo(1)) + " form " + upTo(2)
            + " door 0 pace 1 rise 1 sun " + of(List.of("left", "right", "none")), rule("r"), rule("q")));
        for (String rider : riders) {
            int on = upTo(CROWD_STOPS - 1);
            lines.add("rider " + rider + " on " + on + " off " + (on + 1 + upTo(3)) + " by " + of(List.of("r", "q"))
                + " looks " + upTo(9) + " age " + of(List.of(20, 50, 70)) + (chance(30) ? " bag" : "")
                + (chance(50) ? " proud" : ""));
        }
        if (chance(50)) {
            lines.add("holds " + of(riders) + " row 0 seat " + upTo(3));
        }
        if (chance(50)) {
            lines.add("friends ada, bo");
        }
        return String.join(";", lines);
    }

    private void crowd(Check check) {
        BusSeats x = new BusSeats();
        PlainBus plain = new PlainBus();
        String text = crowdText();
        tell(check, x, plain, text);
        for (int stop = 0; stop < CROWD_STOPS; stop++) {
            both(check, x, plain, text, "ways");
            for (int r = 0; r < 7; r++) {
                both(check, x, plain, text, "ties", r);
                both(check, x, plain, text, "odds", r, upTo(7));
                both(check, x, plain, text, "odds", r, upTo(3));
            }
            both(check, x, plain, text, "stop");
        }
    }

    public static void main(String[] args) {
        Check check = new Check("ModelTest");
        int runs = args.length > 0 ? Integer.parseInt(args[0]) : RUNS;
        int seed = args.length > 1 ? Integer.parseInt(args[1]) : 1;
        for (int i = 0; i < runs; i++) {
            new ModelTest(seed * 1000003L + i).run(check);
            new ModelTest(seed * 2000003L + i).crowd(check);
        }
        check.end();
    }
}
