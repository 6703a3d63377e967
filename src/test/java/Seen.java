import java.util.ArrayList;
import java.util.List;

/** All that can be seen of an object, so that what a refused call leaves can be held against what was. */
final class Seen {
    private Seen() {
    }

    /** Every answer that depends on what is told, in one row; marks and tape are looked into last and used up by it. */
    static List<Long> of(BusSeats x) {
        List<Long> seen = new ArrayList<>();
        seen.add((long) x.fault());
        for (int what = 0; what < 10; what++) {
            seen.add((long) x.size(what));
        }
        told(x, seen);
        ride(x, seen);
        for (int rule = 0; rule < x.size(1); rule++) {
            seen.add((long) x.agrees(rule));
        }
        seen.add((long) x.likely());
        for (int mark = x.size(6) - 1; mark >= 0; mark--) {
            seen.add(x.back(mark) ? 1L : 0L);
            seen.add((long) x.size(5));
            for (int r = 0; r < x.size(0); r++) {
                seen.add((long) x.at(r));
            }
        }
        seen.add((long) x.bus(x.size(9)));
        seen.add((long) x.fault());
        seen.add((long) x.where());
        told(x, seen);
        return seen;
    }

    private static void told(BusSeats x, List<Long> seen) {
        for (int r = 0; r < x.size(0); r++) {
            for (int what = 0; what < 8; what++) {
                seen.add((long) x.rider(r, what));
            }
        }
        for (int rule = 0; rule < x.size(1); rule++) {
            for (int i = 0; i < 4; i++) {
                seen.add((long) x.way(rule, i));
            }
        }
        seen.add((long) x.layout(0, 3));
        seen.add((long) x.free());
    }

    private static void ride(BusSeats x, List<Long> seen) {
        for (int s = 0; s < x.size(5); s++) {
            seen.add((long) x.seconds(s));
        }
        for (int r = 0; r < x.size(0); r++) {
            seen.add((long) x.at(r));
            seen.add((long) x.order(r));
            seen.add((long) x.shunned(r));
        }
        for (int s = 0; s < 8; s++) {
            seen.add((long) x.sits(s));
            seen.add((long) x.bag(s));
        }
        seen.add((long) x.standing());
        seen.add((long) x.given());
        seen.add((long) x.sorted());
    }
}
