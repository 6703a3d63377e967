import java.util.NoSuchElementException;

/** Who sits where on a bus. The document DOC.md says what each call answers. */
public final class BusSeats {
    public static final int NONE = -1;

    private static final int NOBODY = -2;
    private static final int NO_SORTING = -1000;

    private static final int TAPE_BYTES = 900;
    private static final int FEED_BYTES = 20;
    private static final int MOST_SEATS = 20;
    private static final int MOST_RIDERS = 8;
    private static final int MOST_RULES = 4;
    private static final int MOST_WAYS = 4;
    private static final int MOST_FRIENDS = 3;
    private static final int MOST_HOLDERS = 4;
    private static final int MOST_MARKS = 4;
    private static final int MOST_FILMS = 12;
    private static final int MOST_DEALT = 6;
    private static final int MOST_BOARDING = 4;
    private static final int MOST_PLACES = 40;
    private static final int STOPS = 12;
    private static final int FORMS = 3;
    private static final int LAYOUT_KINDS = 4;

    private static final int NOT_ON = 100;
    private static final int STANDS = 101;
    private static final int OFF = 102;

    // A stranger is kept behind the riders: looks of its own, and a bit that no friend has.
    private static final int STRANGER = MOST_RIDERS;
    private static final int STRANGER_LOOKS = 5;

    private static final int ALONE = 0;
    private static final int FAR = 1;
    private static final int WINDOW = 2;
    private static final int AISLE = 3;
    private static final int FRONT = 4;
    private static final int BACK = 5;
    private static final int SHADE = 6;
    private static final int LIKE = 7;
    private static final int FRIEND = 8;
    private static final int WAY_KINDS = 9;

    private static final int LEFT = 0;
    private static final int RIGHT = 1;
    private static final int NO_SUN = 2;

    private static final int NO_SUCH = 1;
    private static final int BAD_NUMBER = 2;
    private static final int NO_ROOM = 3;
    private static final int FAULTY = 4;
    private static final int NOT_SO = 5;
    private static final int THERE_IS_NONE = 6;

    private final Parser parser = new Parser();
    private Plan plan = new Plan();
    private Plan draft = new Plan();
    private boolean hasBus;
    private final Ride ride;
    private final Ride[] marks = new Ride[MOST_MARKS];
    private int markCount;
    private final Films films = new Films();
    private final Scene imagined;
    private final Odds lots;
    private final Deals cards;
    private int latestTrouble;

    public BusSeats() {
        ride = new Ride(plan);
        imagined = new Scene(plan.cabin);
        Ride[] spare = new Ride[MOST_BOARDING];
        for (int i = 0; i < MOST_BOARDING; i++) {
            spare[i] = new Ride(plan);
        }
        lots = new Odds(spare);
        cards = new Deals(spare[0]);
    }

    // ---- the bus

    public int feed(int a, int b, int c, int d, int e) {
        if (parser.length + FEED_BYTES > TAPE_BYTES) {
            return NONE;
        }
        parser.append(a);
        parser.append(b);
        parser.append(c);
        parser.append(d);
        parser.append(e);
        return parser.length;
    }

    public int bus(int n) {
        if (n < 0 || n > parser.length) {
            return refused(BAD_NUMBER);
        }
        if (!parser.read(draft, n)) {
            return refused(FAULTY);
        }
        takeDraft();
        return answered(plan.riderCount);
    }

    public int fault() {
        return parser.fault;
    }

    public int where() {
        return latestTrouble == FAULTY ? parser.place : NONE;
    }

    // ---- stops

    public int stop() {
        if (!hasBus) {
            return refused(NO_SUCH);
        }
        if (ride.stops >= STOPS) {
            return refused(THERE_IS_NONE);
        }
        int spent = ride.halt();
        ride.board();
        return answered(spent);
    }

    public int run() {
        if (!hasBus) {
            return refused(NO_SUCH);
        }
        int spent = 0;
        for (int s = ride.stops; s < STOPS; s++) {
            spent += ride.halt();
            ride.board();
        }
        return answered(spent);
    }

    public int seconds(int stop) {
        if (!hasBus || stop < 0 || stop >= ride.stops) {
            return refused(NO_SUCH);
        }
        return answered(ride.spent[stop]);
    }

    public int at(int rider) {
        if (!isRider(rider)) {
            return refused(NO_SUCH);
        }
        return answered(ride.place[rider]);
    }

    public int sits(int seat) {
        if (!isSeat(seat)) {
            return refused(NO_SUCH);
        }
        return answered(ride.scene.sitter[seat]);
    }

    public int bag(int seat) {
        if (!isSeat(seat)) {
            return refused(NO_SUCH);
        }
        return answered(ride.luggage[seat]);
    }

    public int standing() {
        if (!hasBus) {
            return refused(NO_SUCH);
        }
        return answered(ride.standers());
    }

    public int free() {
        if (!hasBus) {
            return refused(NO_SUCH);
        }
        return answered(ride.freeSeats());
    }

    public int order(int rider) {
        if (!isRider(rider)) {
            return refused(NO_SUCH);
        }
        if (ride.turn[rider] == 0) {
            return refused(THERE_IS_NONE);
        }
        return answered(ride.turn[rider]);
    }

    public int shunned(int rider) {
        if (!isRider(rider)) {
            return refused(NO_SUCH);
        }
        if (ride.turn[rider] == 0) {
            return refused(THERE_IS_NONE);
        }
        return answered(ride.shunning(rider));
    }

    public int given() {
        if (!hasBus) {
            return refused(NO_SUCH);
        }
        return answered(ride.gifts);
    }

    public int sorted() {
        if (!hasBus) {
            latestTrouble = NO_SUCH;
            return NO_SORTING;
        }
        return answered(ride.sortedPairs());
    }

    public int mark() {
        if (!hasBus) {
            return refused(NO_SUCH);
        }
        if (markCount >= MOST_MARKS) {
            return refused(NO_ROOM);
        }
        Ride kept = marks[markCount];
        if (kept == null) {
            kept = new Ride(plan);
            marks[markCount] = kept;
        }
        kept.copyFrom(ride);
        markCount++;
        return answered(markCount - 1);
    }

    public boolean back(int mark) {
        Ride kept = mark < 0 || mark >= markCount ? null : marks[mark];
        if (kept == null) {
            latestTrouble = NO_SUCH;
            return false;
        }
        ride.copyFrom(kept);
        latestTrouble = 0;
        return true;
    }

    // ---- choosing

    public int choice(int rider) {
        int trouble = choosingTrouble(rider);
        if (trouble != 0) {
            return refused(trouble);
        }
        return answered(ride.chosen(rider, ride.bestSeats(rider)));
    }

    public int ties(int rider) {
        int trouble = choosingTrouble(rider);
        if (trouble != 0) {
            return refused(trouble);
        }
        return answered(Integer.bitCount(ride.tied(rider, ride.bestSeats(rider))));
    }

    public long odds(int rider, int seat) {
        if (!isRider(rider) || !isSeat(seat)) {
            return refused(NO_SUCH);
        }
        int boarding = lots.gather(plan, ride.stops);
        if (boarding > MOST_BOARDING) {
            return refused(NO_ROOM);
        }
        if (plan.riders[rider].on != ride.stops) {
            return refused(NOT_SO);
        }
        latestTrouble = 0;
        return lots.sharesOf(ride, rider, seat);
    }

    public long ways() {
        if (!hasBus) {
            return refused(NO_SUCH);
        }
        if (ride.stops >= STOPS) {
            return refused(THERE_IS_NONE);
        }
        int boarding = lots.gather(plan, ride.stops);
        if (boarding > MOST_BOARDING) {
            return refused(NO_ROOM);
        }
        latestTrouble = 0;
        return Odds.sharesOfAll(boarding);
    }

    public int monday(int seat) {
        if (!isSeat(seat)) {
            return refused(NO_SUCH);
        }
        return answered(drivenFrom(seat));
    }

    public int doorway(int rider, int other) {
        if (!isRider(rider) || !isRider(other) || rider == other) {
            return refused(NO_SUCH);
        }
        if (ride.place[rider] != STANDS || ride.place[other] != STANDS) {
            return refused(NOT_SO);
        }
        return answered(rests(rider, other));
    }

    // ---- films, deals

    public int film(int taken, int seat) {
        if (!isSeat(seat)) {
            return refused(NO_SUCH);
        }
        if ((taken & ~plan.cabin.seats) != 0 || holdsBit(taken, seat)) {
            return refused(BAD_NUMBER);
        }
        if (films.count >= MOST_FILMS) {
            return refused(NO_ROOM);
        }
        films.add(taken, seat);
        return answered(films.count);
    }

    public int agrees(int rule) {
        if (!isRule(rule)) {
            return refused(NO_SUCH);
        }
        return answered(films.agreeing(plan.cabin, plan.rules[rule], imagined));
    }

    public int likely() {
        if (!hasBus) {
            return refused(NO_SUCH);
        }
        if (films.count == 0) {
            return refused(THERE_IS_NONE);
        }
        int likeliest = NONE;
        int most = -1;
        for (int i = 0; i < plan.ruleCount; i++) {
            int agreeing = films.agreeing(plan.cabin, plan.rules[i], imagined);
            if (agreeing > most) {
                most = agreeing;
                likeliest = i;
            }
        }
        return answered(likeliest);
    }

    public int dealt(int rider) {
        if (!isRider(rider)) {
            return refused(NO_SUCH);
        }
        if (plan.riderCount > MOST_DEALT) {
            return refused(NO_ROOM);
        }
        if (!cards.counted) {
            cards.countAll(plan);
        }
        if (cards.told[rider] == NONE) {
            return refused(NOT_SO);
        }
        return answered(cards.asMuch[rider]);
    }

    public int deals() {
        if (!hasBus) {
            return refused(NO_SUCH);
        }
        if (plan.riderCount > MOST_DEALT) {
            return refused(NO_ROOM);
        }
        return answered(Deals.howMany(plan.riderCount));
    }

    // ---- rows, forms

    public long alone(int n, int k) {
        if (!isPlaces(n) || k < 0 || k > MOST_PLACES) {
            return refused(BAD_NUMBER);
        }
        latestTrouble = 0;
        return apartWays(n, k);
    }

    public int full(int n) {
        if (!isPlaces(n)) {
            return refused(BAD_NUMBER);
        }
        return answered((n + 1) / 2);
    }

    public int fewest(int n) {
        if (!isPlaces(n)) {
            return refused(BAD_NUMBER);
        }
        return answered((n + 2) / 3);
    }

    public int layout(int form, int what) {
        if (!hasBus || !isForm(form) || what < 0 || what >= LAYOUT_KINDS) {
            return refused(NO_SUCH);
        }
        return answered(plan.cabin.total(form, what));
    }

    public int beats(int form, int other) {
        if (!hasBus || !isForm(form) || !isForm(other) || form == other) {
            return refused(NO_SUCH);
        }
        return answered(plan.cabin.isBetter(form, other) ? 1 : 0);
    }

    public int unbeaten() {
        if (!hasBus) {
            return refused(NO_SUCH);
        }
        int forms = 0;
        for (int form = 0; form < FORMS; form++) {
            boolean beaten = false;
            for (int other = 0; other < FORMS; other++) {
                beaten = beaten || plan.cabin.isBetter(other, form);
            }
            if (!beaten) {
                forms |= 1 << form;
            }
        }
        return answered(forms);
    }

    // ---- what is seen

    public int seat(int s, int what) {
        if (!hasBus || s < 0 || s >= 4 * plan.cabin.rows || what < 0 || what > 3) {
            return refused(NO_SUCH);
        }
        boolean there = isSeat(s);
        if (what == 0) {
            return answered(there ? 1 : 0);
        }
        if (!there) {
            return refused(NO_SUCH);
        }
        if (what == 1) {
            return answered(Cabin.isWindow(s % 4) ? 1 : 0);
        }
        if (what == 2) {
            return answered(Cabin.isAisle(plan.cabin.form, s % 4) ? 1 : 0);
        }
        return answered(plan.cabin.beside[s]);
    }

    public int rider(int r, int what) {
        if (!isRider(r)) {
            return NONE;
        }
        Rider it = plan.riders[r];
        switch (what) {
            case 0:
                return it.on;
            case 1:
                return it.off;
            case 2:
                return it.rule;
            case 3:
                return it.looks;
            case 4:
                return it.age;
            case 5:
                return it.hasBag ? 1 : 0;
            case 6:
                return it.isProud ? 1 : 0;
            case 7:
                return it.held;
            default:
                return NONE;
        }
    }

    public int way(int rule, int i) {
        if (!isRule(rule)) {
            return NONE;
        }
        Rule it = plan.rules[rule];
        return i < 0 || i >= it.count ? NONE : it.wanted[i];
    }

    public int led(int i) throws NoSuchElementException {
        int rider = hasBus ? ride.standerAt(i) : NONE;
        if (rider == NONE) {
            throw new NoSuchElementException("there is none such who stands");
        }
        return rider;
    }

    public int size(int what) {
        switch (what) {
            case 0:
                return hasBus ? plan.riderCount : 0;
            case 1:
                return hasBus ? plan.ruleCount : 0;
            case 2:
                return hasBus ? plan.friendCount : 0;
            case 3:
                return hasBus ? plan.holderCount : 0;
            case 4:
                return hasBus ? Integer.bitCount(plan.cabin.seats) : 0;
            case 5:
                return hasBus ? ride.stops : 0;
            case 6:
                return markCount;
            case 7:
                return films.count;
            case 8:
                return hasBus ? plan.cabin.form : 0;
            case 9:
                return parser.length;
            default:
                return NONE;
        }
    }

    public int trouble() {
        return latestTrouble;
    }

    // ---- helpers of the face

    private int refused(int number) {
        latestTrouble = number;
        return NONE;
    }

    private int answered(int answer) {
        latestTrouble = 0;
        return answer;
    }

    private boolean isRider(int r) {
        return hasBus && r >= 0 && r < plan.riderCount;
    }

    private boolean isRule(int r) {
        return hasBus && r >= 0 && r < plan.ruleCount;
    }

    private boolean isSeat(int s) {
        return hasBus && s >= 0 && s < MOST_SEATS && holdsBit(plan.cabin.seats, s);
    }

    private static boolean isForm(int form) {
        return form >= 0 && form < FORMS;
    }

    private static boolean isPlaces(int n) {
        return n >= 1 && n <= MOST_PLACES;
    }

    private static boolean holdsBit(int bits, int i) {
        return (bits >> i & 1) == 1;
    }

    private static int lowestBit(int bits) {
        for (int i = 0; i < MOST_SEATS; i++) {
            if (holdsBit(bits, i)) {
                return i;
            }
        }
        return NOBODY;
    }

    private static int gap(int a, int b) {
        return a < b ? b - a : a - b;
    }

    private void takeDraft() {
        Plan former = plan;
        plan = draft;
        draft = former;
        hasBus = true;
        ride.begin(plan);
        markCount = 0;
        films.count = 0;
        cards.counted = false;
    }

    private int choosingTrouble(int rider) {
        if (!isRider(rider)) {
            return NO_SUCH;
        }
        int place = ride.place[rider];
        return place == NOT_ON || place == STANDS ? 0 : NOT_SO;
    }

    private int drivenFrom(int seat) {
        imagined.copyFrom(ride.scene);
        int open = plan.cabin.seats;
        int comer = STRANGER;
        int target = seat;
        int driven = 0;
        for (int i = 0; i <= MOST_RIDERS; i++) {
            int out = imagined.sitter[target];
            imagined.sitter[target] = comer;
            open &= ~(1 << target);
            if (out < 0 || out >= plan.riderCount) {
                return driven;
            }
            driven++;
            Rider it = plan.riders[out];
            int best = imagined.best(plan.rules[it.rule], it.looks, it.friends, open);
            if (best == 0) {
                return driven;
            }
            target = lowestBit(best);
            comer = out;
        }
        return driven;
    }

    private int rests(int rider, int other) {
        int first = byDoor(rider);
        int second = byDoor(other);
        int within = plan.cabin.pace * (1 + plan.cabin.rows) + plan.cabin.rise;
        int squeezed = within + plan.cabin.rise;
        int found = 0;
        if (2 * first <= squeezed && 2 * second <= squeezed) {
            found |= 1;
        }
        if (first <= within && squeezed <= 2 * second) {
            found |= 2;
        }
        if (second <= within && squeezed <= 2 * first) {
            found |= 4;
        }
        if (within <= first && within <= second) {
            found |= 8;
        }
        return found;
    }

    private int byDoor(int rider) {
        return plan.cabin.pace * (plan.riders[rider].off - ride.stops + 1);
    }

    private static long apartWays(int n, int k) {
        // To seat k apart in n is to pick k of n - k + 1, the places between them put aside.
        int from = n - k + 1;
        if (k > from) {
            return 0;
        }
        long found = 1;
        for (int i = 1; i <= k; i++) {
            found = found * (from - k + i) / i;
        }
        return found;
    }

    /** What the bus line tells, and what of the seats follows from it. */
    static final class Cabin {
        int rows;
        int form;
        int door;
        int pace;
        int rise;
        int sun;
        int seats;
        final int[] beside = new int[MOST_SEATS];

        static boolean isIn(int form, int k) {
            return form == 0 || k == 0 || k == 3 || form == 1 && k == 2;
        }

        static boolean isWindow(int k) {
            return k == 0 || k == 3;
        }

        static boolean isAisle(int form, int k) {
            return k == 1 || k == 2 || form == 2 || form == 1 && k == 0;
        }

        static boolean isPaired(int form, int k) {
            return isIn(form, k) && isIn(form, k ^ 1);
        }

        void placeSeats() {
            seats = 0;
            for (int s = 0; s < MOST_SEATS; s++) {
                if (s < 4 * rows && isIn(form, s % 4)) {
                    seats |= 1 << s;
                }
                beside[s] = s < 4 * rows && isPaired(form, s % 4) ? s ^ 1 : NOBODY;
            }
        }

        boolean isSunny(int seat) {
            return sun == (seat % 4 < 2 ? LEFT : RIGHT);
        }

        boolean isShutIn(int seat) {
            return isWindow(seat % 4) && !isAisle(form, seat % 4);
        }

        int walk(int seat) {
            return pace * (1 + gap(seat / 4, door));
        }

        int total(int someForm, int what) {
            int sum = 0;
            for (int s = 0; s < 4 * rows; s++) {
                if (isIn(someForm, s % 4)) {
                    sum += part(someForm, s, what);
                }
            }
            return sum;
        }

        private int part(int someForm, int seat, int what) {
            switch (what) {
                case 0:
                    return 1;
                case 1:
                    return isWindow(seat % 4) ? 1 : 0;
                case 2:
                    return isPaired(someForm, seat % 4) ? 0 : 1;
                default:
                    return walk(seat);
            }
        }

        boolean isBetter(int someForm, int other) {
            boolean better = false;
            for (int what = 0; what < LAYOUT_KINDS; what++) {
                int gain = total(someForm, what) - total(other, what);
                if (what == LAYOUT_KINDS - 1) {
                    gain = -gain;
                }
                if (gain < 0) {
                    return false;
                }
                better = better || gain > 0;
            }
            return better;
        }
    }

    /** A rule: its ways, the weightiest first. */
    static final class Rule {
        long name;
        int count;
        final int[] wanted = new int[MOST_WAYS];

        boolean wants(int kind) {
            for (int i = 0; i < count; i++) {
                if (wanted[i] == kind) {
                    return true;
                }
            }
            return false;
        }
    }

    /** A rider as told. */
    static final class Rider {
        long name;
        int on;
        int off;
        int rule;
        int looks;
        int age;
        boolean hasBag;
        boolean isProud;
        int held;
        int friends;
    }

    /** All that a text tells. */
    static final class Plan {
        final Cabin cabin = new Cabin();
        final Rule[] rules = new Rule[MOST_RULES];
        final Rider[] riders = new Rider[MOST_RIDERS];
        boolean hasCabin;
        int ruleCount;
        int riderCount;
        int friendCount;
        int holderCount;

        Plan() {
            for (int i = 0; i < MOST_RULES; i++) {
                rules[i] = new Rule();
            }
            for (int i = 0; i < MOST_RIDERS; i++) {
                riders[i] = new Rider();
            }
        }

        void clear() {
            hasCabin = false;
            ruleCount = 0;
            riderCount = 0;
            friendCount = 0;
            holderCount = 0;
        }

        boolean lacksSome() {
            return !hasCabin || ruleCount == 0 || riderCount == 0;
        }

        int ruleNamed(long name) {
            for (int i = 0; i < ruleCount; i++) {
                if (rules[i].name == name) {
                    return i;
                }
            }
            return NONE;
        }

        int riderNamed(long name) {
            for (int i = 0; i < riderCount; i++) {
                if (riders[i].name == name) {
                    return i;
                }
            }
            return NONE;
        }
    }

    /** The tape, and how it is read from the left into a plan, up to the first fault. */
    static final class Parser {
        private static final int END = 0;
        private static final int WORD = 1;
        private static final int WHOLE = 2;
        private static final int SEMICOLON = 3;
        private static final int COMMA = 4;
        private static final int BAD = 5;

        private static final int MOST_LETTERS = 8;
        private static final int MOST_DIGITS = 3;

        private static final int FORM = 1;
        private static final int UNTOLD = 2;
        private static final int AGAIN = 3;
        private static final int BOUNDS = 4;
        private static final int MANY = 5;
        private static final int LACKS = 6;

        int length;
        int fault;
        int place;
        private final byte[] text = new byte[TAPE_BYTES];
        private int end;
        private int next;
        private int kind;
        private int start;
        private int value;
        private long word;

        void append(int number) {
            for (int shift = 24; shift >= 0; shift -= 8) {
                if (length < TAPE_BYTES) {
                    text[length] = (byte) (number >>> shift);
                    length++;
                }
            }
        }

        /** Reads the first n bytes and empties the tape: whether they tell a bus. */
        boolean read(Plan plan, int n) {
            plan.clear();
            end = Math.min(n, length);
            length = 0;
            next = 0;
            fault = 0;
            advance();
            for (int lines = 0; lines <= end; lines++) {
                boolean sound = isWord("bus") ? readBus(plan)
                    : isWord("rule") ? readRule(plan)
                    : isWord("rider") ? readRider(plan)
                    : isWord("friends") ? readFriends(plan)
                    : isWord("holds") ? readHolder(plan)
                    : failed(FORM);
                if (!sound) {
                    return false;
                }
                if (kind == END) {
                    return !plan.lacksSome() || failed(LACKS);
                }
                if (kind != SEMICOLON) {
                    return failed(FORM);
                }
                advance();
            }
            return failed(FORM);
        }

        private boolean failed(int number) {
            fault = number;
            place = start;
            return false;
        }

        private boolean readBus(Plan plan) {
            if (plan.hasCabin) {
                return failed(AGAIN);
            }
            advance();
            Cabin cabin = plan.cabin;
            cabin.rows = numberBehind("rows", 1, 5);
            if (fault == 0) {
                cabin.form = numberBehind("form", 0, FORMS - 1);
            }
            if (fault == 0) {
                cabin.door = numberBehind("door", 0, cabin.rows - 1);
            }
            if (fault == 0) {
                cabin.pace = numberBehind("pace", 1, 9);
            }
            if (fault == 0) {
                cabin.rise = numberBehind("rise", 0, 9);
            }
            if (fault != 0 || !skipWord("sun") || !readSide(cabin)) {
                return false;
            }
            cabin.placeSeats();
            plan.hasCabin = true;
            return true;
        }

        private boolean readSide(Cabin cabin) {
            if (isWord("left")) {
                cabin.sun = LEFT;
            } else if (isWord("right")) {
                cabin.sun = RIGHT;
            } else if (isWord("none")) {
                cabin.sun = NO_SUN;
            } else {
                return failed(FORM);
            }
            advance();
            return true;
        }

        private boolean readRule(Plan plan) {
            if (plan.ruleCount >= MOST_RULES) {
                return failed(MANY);
            }
            advance();
            if (!isFresh(plan)) {
                return false;
            }
            Rule rule = plan.rules[plan.ruleCount];
            rule.name = word;
            rule.count = 0;
            // One step is over the name ahead of the first way, over a comma ahead of each further one, the fifth too.
            for (int i = 0; i <= MOST_WAYS; i++) {
                advance();
                if (!readWay(rule)) {
                    return false;
                }
                if (kind != COMMA) {
                    break;
                }
            }
            plan.ruleCount++;
            return true;
        }

        private boolean readWay(Rule rule) {
            int wanted = wayHere();
            if (wanted == NONE) {
                return failed(FORM);
            }
            if (rule.wants(wanted)) {
                return failed(AGAIN);
            }
            if (rule.count >= MOST_WAYS) {
                return failed(MANY);
            }
            rule.wanted[rule.count] = wanted;
            rule.count++;
            advance();
            return true;
        }

        private boolean readRider(Plan plan) {
            if (plan.riderCount >= MOST_RIDERS) {
                return failed(MANY);
            }
            advance();
            if (!isFresh(plan)) {
                return false;
            }
            Rider rider = plan.riders[plan.riderCount];
            rider.name = word;
            rider.held = NOBODY;
            rider.friends = 0;
            advance();
            rider.on = numberBehind("on", 0, STOPS - 2);
            if (fault == 0) {
                rider.off = numberBehind("off", rider.on + 1, STOPS - 1);
            }
            if (fault != 0 || !skipWord("by") || !readRuleOf(rider, plan)) {
                return false;
            }
            rider.looks = numberBehind("looks", 0, 9);
            if (fault == 0) {
                rider.age = numberBehind("age", 0, 99);
            }
            if (fault != 0) {
                return false;
            }
            rider.hasBag = skipIfWord("bag");
            rider.isProud = skipIfWord("proud");
            plan.riderCount++;
            return true;
        }

        private boolean readRuleOf(Rider rider, Plan plan) {
            if (!isName()) {
                return failed(FORM);
            }
            rider.rule = plan.ruleNamed(word);
            if (rider.rule == NONE) {
                return failed(UNTOLD);
            }
            advance();
            return true;
        }

        private boolean readFriends(Plan plan) {
            if (plan.friendCount >= MOST_FRIENDS) {
                return failed(MANY);
            }
            advance();
            int one = knownRider(plan);
            if (one == NONE) {
                return false;
            }
            advance();
            if (kind != COMMA) {
                return failed(FORM);
            }
            advance();
            int two = knownRider(plan);
            if (two == NONE) {
                return false;
            }
            if (one == two || holdsBit(plan.riders[one].friends, two)) {
                return failed(AGAIN);
            }
            plan.riders[one].friends |= 1 << two;
            plan.riders[two].friends |= 1 << one;
            plan.friendCount++;
            advance();
            return true;
        }

        private boolean readHolder(Plan plan) {
            if (plan.holderCount >= MOST_HOLDERS) {
                return failed(MANY);
            }
            advance();
            int holder = knownRider(plan);
            if (holder == NONE) {
                return false;
            }
            if (plan.riders[holder].held != NOBODY) {
                return failed(AGAIN);
            }
            advance();
            int row = numberBehind("row", 0, 4);
            int k = fault == 0 ? numberBehind("seat", 0, 3) : NONE;
            if (fault != 0) {
                return false;
            }
            plan.riders[holder].held = 4 * row + k;
            plan.holderCount++;
            return true;
        }

        private int knownRider(Plan plan) {
            if (!isName()) {
                failed(FORM);
                return NONE;
            }
            int found = plan.riderNamed(word);
            if (found == NONE) {
                failed(UNTOLD);
            }
            return found;
        }

        private boolean isFresh(Plan plan) {
            if (!isName()) {
                return failed(FORM);
            }
            if (plan.ruleNamed(word) != NONE || plan.riderNamed(word) != NONE) {
                return failed(AGAIN);
            }
            return true;
        }

        private boolean isName() {
            return kind == WORD && wayHere() == NONE
                && !isWord("bus") && !isWord("rule") && !isWord("rider") && !isWord("friends")
                && !isWord("holds") && !isWord("bag") && !isWord("proud");
        }

        private int numberBehind(String name, int least, int most) {
            if (!isWord(name)) {
                failed(FORM);
                return NONE;
            }
            advance();
            if (kind != WHOLE) {
                failed(FORM);
                return NONE;
            }
            if (value < least || value > most) {
                failed(BOUNDS);
                return NONE;
            }
            int number = value;
            advance();
            return number;
        }

        private boolean skipWord(String name) {
            return skipIfWord(name) || failed(FORM);
        }

        private boolean skipIfWord(String name) {
            if (!isWord(name)) {
                return false;
            }
            advance();
            return true;
        }

        private boolean isWord(String name) {
            if (kind != WORD || next - start != name.length()) {
                return false;
            }
            for (int i = 0; i < name.length(); i++) {
                if (text[start + i] != name.charAt(i)) {
                    return false;
                }
            }
            return true;
        }

        private int wayHere() {
            for (int i = 0; i < WAY_KINDS; i++) {
                if (isWord(wayText(i))) {
                    return i;
                }
            }
            return NONE;
        }

        private static String wayText(int kind) {
            switch (kind) {
                case ALONE:
                    return "alone";
                case FAR:
                    return "far";
                case WINDOW:
                    return "window";
                case AISLE:
                    return "aisle";
                case FRONT:
                    return "front";
                case BACK:
                    return "back";
                case SHADE:
                    return "shade";
                case LIKE:
                    return "like";
                default:
                    return "friend";
            }
        }

        private void advance() {
            while (next < end && text[next] == ' ') {
                next++;
            }
            start = next;
            if (next >= end) {
                kind = END;
                return;
            }
            int sign = text[next];
            if (sign >= 'a' && sign <= 'z') {
                takeWord();
            } else if (sign >= '0' && sign <= '9') {
                takeWhole();
            } else {
                kind = sign == ';' ? SEMICOLON : sign == ',' ? COMMA : BAD;
                next++;
            }
        }

        // A word of eight letters fits into one long, five bits each: names are kept and compared as such.
        private void takeWord() {
            word = 0;
            while (next < end && text[next] >= 'a' && text[next] <= 'z') {
                word = word * 32 + (text[next] - 'a' + 1);
                next++;
            }
            kind = next - start <= MOST_LETTERS ? WORD : BAD;
        }

        private void takeWhole() {
            value = 0;
            while (next < end && text[next] >= '0' && text[next] <= '9') {
                value = value * 10 + (text[next] - '0');
                next++;
            }
            kind = next - start <= MOST_DIGITS ? WHOLE : BAD;
        }
    }

    /** Who sits where, with looks: all that a choice by ways depends on. */
    static final class Scene {
        private static final int NOBODY_NEAR = 99;
        private static final int LIKE_NOBODY = 5;
        private static final int WORST = -100;

        final int[] sitter = new int[MOST_SEATS];
        final int[] looks = new int[MOST_RIDERS + 1];
        private Cabin cabin;

        Scene(Cabin cabin) {
            this.cabin = cabin;
        }

        void empty(Cabin of) {
            cabin = of;
            for (int s = 0; s < MOST_SEATS; s++) {
                sitter[s] = NOBODY;
            }
            looks[STRANGER] = STRANGER_LOOKS;
        }

        void copyFrom(Scene other) {
            cabin = other.cabin;
            System.arraycopy(other.sitter, 0, sitter, 0, MOST_SEATS);
            System.arraycopy(other.looks, 0, looks, 0, MOST_RIDERS + 1);
        }

        int besideOf(int seat) {
            int next = cabin.beside[seat];
            return next == NOBODY ? NOBODY : sitter[next];
        }

        int best(Rule rule, int ownLooks, int ownFriends, int open) {
            int left = open;
            for (int i = 0; i < rule.count; i++) {
                int kept = 0;
                int top = WORST;
                for (int s = 0; s < MOST_SEATS; s++) {
                    if (!holdsBit(left, s)) {
                        continue;
                    }
                    int worth = worth(rule.wanted[i], s, ownLooks, ownFriends);
                    if (worth > top) {
                        top = worth;
                        kept = 0;
                    }
                    if (worth == top) {
                        kept |= 1 << s;
                    }
                }
                left = kept;
            }
            return left;
        }

        private int worth(int kind, int seat, int ownLooks, int ownFriends) {
            int other = besideOf(seat);
            switch (kind) {
                case ALONE:
                    return other == NOBODY ? 1 : 0;
                case FAR:
                    return nearest(seat);
                case WINDOW:
                    return Cabin.isWindow(seat % 4) ? 1 : 0;
                case AISLE:
                    return Cabin.isAisle(cabin.form, seat % 4) ? 1 : 0;
                case FRONT:
                    return -(seat / 4);
                case BACK:
                    return seat / 4;
                case SHADE:
                    return cabin.isSunny(seat) ? 0 : 1;
                case LIKE:
                    return other == NOBODY ? -LIKE_NOBODY : -gap(ownLooks, looks[other]);
                default:
                    return other != NOBODY && holdsBit(ownFriends, other) ? 1 : 0;
            }
        }

        private int nearest(int seat) {
            int least = NOBODY_NEAR;
            for (int s = 0; s < MOST_SEATS; s++) {
                if (sitter[s] != NOBODY) {
                    int rows = s / 4 - seat / 4;
                    int aside = s % 4 - seat % 4;
                    int far = 2 * (rows < 0 ? -rows : rows) + (aside < 0 ? -aside : aside);
                    least = far < least ? far : least;
                }
            }
            return least;
        }
    }

    /** A bus under way: who is where, and what has been so far. */
    static final class Ride {
        private static final int OLD = 65;
        private static final int GROWN = 40;
        private static final int NEVER_JOINED = 99;

        private Plan plan;
        final Scene scene;
        final int[] place = new int[MOST_RIDERS];
        final int[] luggage = new int[MOST_SEATS];
        final int[] turn = new int[MOST_RIDERS];
        final int[] spent = new int[STOPS];
        private final int[] passed = new int[MOST_RIDERS];
        private int joined;
        private int turns;
        int gifts;
        int stops;

        Ride(Plan plan) {
            this.plan = plan;
            scene = new Scene(plan.cabin);
        }

        void begin(Plan of) {
            plan = of;
            scene.empty(of.cabin);
            for (int r = 0; r < of.riderCount; r++) {
                scene.looks[r] = of.riders[r].looks;
                place[r] = NOT_ON;
                turn[r] = 0;
                passed[r] = 0;
            }
            joined = 0;
            for (int s = 0; s < MOST_SEATS; s++) {
                luggage[s] = NOBODY;
            }
            turns = 0;
            gifts = 0;
            stops = 0;
        }

        void copyFrom(Ride other) {
            plan = other.plan;
            scene.copyFrom(other.scene);
            System.arraycopy(other.place, 0, place, 0, MOST_RIDERS);
            System.arraycopy(other.luggage, 0, luggage, 0, MOST_SEATS);
            System.arraycopy(other.turn, 0, turn, 0, MOST_RIDERS);
            System.arraycopy(other.spent, 0, spent, 0, STOPS);
            System.arraycopy(other.passed, 0, passed, 0, MOST_RIDERS);
            joined = other.joined;
            turns = other.turns;
            gifts = other.gifts;
            stops = other.stops;
        }

        /** The coming stop up to the point where new riders come on, the seconds kept. */
        int halt() {
            if (stops >= STOPS) {
                return 0;
            }
            int took = letOff();
            spent[stops] = took;
            int gave = giveSeats();
            for (int r = 0; r < plan.riderCount; r++) {
                if (place[r] == STANDS && !holdsBit(gave, r)) {
                    settle(r);
                }
            }
            return took;
        }

        /** The rest of that stop: new riders come on. */
        void board() {
            for (int r = 0; r < plan.riderCount; r++) {
                if (plan.riders[r].on == stops) {
                    settle(r);
                }
            }
            stops++;
        }

        private int letOff() {
            int took = 0;
            int staying = 0;
            boolean some = false;
            for (int r = 0; r < plan.riderCount; r++) {
                if (plan.riders[r].off == stops) {
                    some = true;
                    took += secondsOf(r);
                    getUp(r);
                    place[r] = OFF;
                } else if (place[r] == STANDS) {
                    staying++;
                }
            }
            return some ? took + staying : 0;
        }

        private int secondsOf(int r) {
            int seat = place[r];
            if (seat >= MOST_SEATS) {
                return plan.cabin.pace;
            }
            int other = scene.besideOf(seat);
            boolean past = other != NOBODY && plan.riders[other].off != stops;
            return plan.cabin.walk(seat) + (past && plan.cabin.isShutIn(seat) ? plan.cabin.rise : 0);
        }

        private int giveSeats() {
            int gave = 0;
            for (int r = 0; r < plan.riderCount; r++) {
                if (place[r] == STANDS && plan.riders[r].age >= OLD) {
                    int giver = youngest();
                    if (giver != NOBODY) {
                        int seat = place[giver];
                        getUp(giver);
                        place[giver] = STANDS;
                        gave |= 1 << giver;
                        gifts++;
                        sitDown(r, seat);
                    }
                }
            }
            return gave;
        }

        private int youngest() {
            int found = NOBODY;
            int least = GROWN;
            for (int r = 0; r < plan.riderCount; r++) {
                if (place[r] < MOST_SEATS && plan.riders[r].age < least) {
                    found = r;
                    least = plan.riders[r].age;
                }
            }
            return found;
        }

        private void settle(int r) {
            int seat = chosen(r, bestSeats(r));
            if (seat == NOBODY) {
                place[r] = STANDS;
            } else {
                sitDown(r, seat);
            }
        }

        void sitDown(int r, int seat) {
            int next = plan.cabin.beside[seat];
            for (int q = 0; q < plan.riderCount; q++) {
                if (place[q] == next) {
                    joined |= 1 << q;
                } else if (place[q] < MOST_SEATS && !holdsBit(joined, q)) {
                    passed[q]++;
                }
            }
            place[r] = seat;
            scene.sitter[seat] = r;
            luggage[seat] = NOBODY;
            turns++;
            turn[r] = turns;
            passed[r] = 0;
            joined &= ~(1 << r);
            if (plan.riders[r].hasBag && next != NOBODY && isFree(next)) {
                luggage[next] = r;
            }
        }

        private void getUp(int r) {
            if (place[r] >= MOST_SEATS) {
                return;
            }
            int next = plan.cabin.beside[place[r]];
            scene.sitter[place[r]] = NOBODY;
            if (next != NOBODY && luggage[next] == r) {
                luggage[next] = NOBODY;
            }
        }

        private boolean isFree(int seat) {
            return scene.sitter[seat] == NOBODY && luggage[seat] == NOBODY;
        }

        int freeSeats() {
            int free = 0;
            for (int s = 0; s < MOST_SEATS; s++) {
                if (holdsBit(plan.cabin.seats, s) && isFree(s)) {
                    free |= 1 << s;
                }
            }
            return free;
        }

        private int bagSeats() {
            int found = 0;
            for (int s = 0; s < MOST_SEATS; s++) {
                if (luggage[s] != NOBODY) {
                    found |= 1 << s;
                }
            }
            return found;
        }

        /** All seats that are as good to a rider as the one that it chooses, as bits. */
        int bestSeats(int r) {
            Rider rider = plan.riders[r];
            int open = freeSeats();
            if (rider.held != NOBODY && holdsBit(open, rider.held)) {
                return 1 << rider.held;
            }
            if (open == 0) {
                open = bagSeats();
            }
            return scene.best(plan.rules[rider.rule], scene.looks[r], rider.friends, open);
        }

        /** The seat that a rider takes of those, or NOBODY if it stands rather. */
        int chosen(int r, int best) {
            int seat = lowestBit(best);
            if (seat == NOBODY) {
                return NOBODY;
            }
            Rider rider = plan.riders[r];
            boolean shy = rider.isProud && rider.held != seat && scene.besideOf(seat) != NOBODY;
            return shy ? NOBODY : seat;
        }

        /** Those of its best seats that a rider might sit in: none at all if it stands by the first of them. */
        int tied(int r, int best) {
            return chosen(r, best) == NOBODY ? 0 : best;
        }

        int standers() {
            int found = 0;
            for (int r = 0; r < plan.riderCount; r++) {
                if (place[r] == STANDS) {
                    found |= 1 << r;
                }
            }
            return found;
        }

        int standerAt(int i) {
            int ahead = 0;
            for (int r = 0; r < plan.riderCount; r++) {
                if (place[r] == STANDS) {
                    if (ahead == i) {
                        return r;
                    }
                    ahead++;
                }
            }
            return NONE;
        }

        int shunning(int r) {
            return holdsBit(joined, r) ? passed[r] : NEVER_JOINED;
        }

        int sortedPairs() {
            int sum = 0;
            for (int s = 0; s < MOST_SEATS; s++) {
                int inner = scene.sitter[s];
                int outer = inner == NOBODY ? NOBODY : scene.besideOf(s);
                if (outer != NOBODY && Cabin.isWindow(s % 4)) {
                    sum += plan.riders[outer].off <= plan.riders[inner].off ? 1 : -1;
                }
            }
            return sum;
        }
    }

    /** What was filmed. */
    static final class Films {
        private final int[] taken = new int[MOST_FILMS];
        private final int[] chosen = new int[MOST_FILMS];
        int count;

        void add(int bits, int seat) {
            if (count < MOST_FILMS) {
                taken[count] = bits;
                chosen[count] = seat;
                count++;
            }
        }

        int agreeing(Cabin cabin, Rule rule, Scene scene) {
            int found = 0;
            for (int i = 0; i < count; i++) {
                scene.empty(cabin);
                for (int s = 0; s < MOST_SEATS; s++) {
                    if (holdsBit(taken[i], s)) {
                        scene.sitter[s] = STRANGER;
                    }
                }
                int best = scene.best(rule, STRANGER_LOOKS, 0, cabin.seats & ~taken[i]);
                if (holdsBit(best, chosen[i])) {
                    found++;
                }
            }
            return found;
        }
    }

    /** How the lots fall for those who come on at the coming stop. */
    static final class Odds {
        // Each number from 1 to 12 divides it.
        private static final long SHARES = 27720;
        private static final int MOST_TIES = 12;

        private final Ride[] rides;
        private final int[] boarding = new int[MOST_RIDERS];
        private int count;

        Odds(Ride[] rides) {
            this.rides = rides;
        }

        int gather(Plan plan, int coming) {
            count = 0;
            for (int r = 0; r < plan.riderCount; r++) {
                if (plan.riders[r].on == coming) {
                    boarding[count] = r;
                    count++;
                }
            }
            return count;
        }

        static long sharesOfAll(int riders) {
            long all = 1;
            for (int i = 0; i < riders; i++) {
                all *= SHARES;
            }
            return all;
        }

        long sharesOf(Ride ride, int rider, int seat) {
            rides[0].copyFrom(ride);
            rides[0].halt();
            return sharesFrom(0, rider, seat);
        }

        private long sharesFrom(int depth, int rider, int seat) {
            if (depth >= count || depth >= rides.length) {
                return 0;
            }
            Ride now = rides[depth];
            int who = boarding[depth];
            int tied = firstTies(now.tied(who, now.bestSeats(who)));
            int ties = Integer.bitCount(tied);
            if (who == rider) {
                // Whoever comes on behind it no longer moves it: all their ways count.
                boolean takes = ties > 0 && holdsBit(tied, seat);
                return takes ? SHARES / ties * sharesOfAll(count - depth - 1) : 0;
            }
            if (depth + 1 >= rides.length) {
                return 0;
            }
            Ride then = rides[depth + 1];
            if (ties == 0) {
                // It stands in all of its ways; one behind it may be less proud and sit.
                then.copyFrom(now);
                return SHARES * sharesFrom(depth + 1, rider, seat);
            }
            long sum = 0;
            for (int s = 0; s < MOST_SEATS; s++) {
                if (holdsBit(tied, s)) {
                    then.copyFrom(now);
                    then.sitDown(who, s);
                    sum += sharesFrom(depth + 1, rider, seat);
                }
            }
            return SHARES / ties * sum;
        }

        private static int firstTies(int best) {
            int kept = 0;
            int ties = 0;
            for (int s = 0; s < MOST_SEATS; s++) {
                if (holdsBit(best, s) && ties < MOST_TIES) {
                    kept |= 1 << s;
                    ties++;
                }
            }
            return kept;
        }
    }

    /** Looks dealt anew in all ways: counted once a bus, as no stop changes what comes out. */
    static final class Deals {
        boolean counted;
        final int[] told = new int[MOST_RIDERS];
        final int[] asMuch = new int[MOST_RIDERS];
        private final int[] hand = new int[MOST_DEALT];
        private final Ride ride;

        Deals(Ride ride) {
            this.ride = ride;
        }

        static int howMany(int riders) {
            int all = 1;
            for (int i = 2; i <= riders; i++) {
                all *= i;
            }
            return all;
        }

        void countAll(Plan plan) {
            int riders = Math.min(plan.riderCount, MOST_DEALT);
            for (int r = 0; r < riders; r++) {
                hand[r] = r;
                asMuch[r] = 0;
            }
            int all = howMany(riders);
            for (int deal = 0; deal < all; deal++) {
                ride.begin(plan);
                for (int r = 0; r < riders; r++) {
                    ride.scene.looks[r] = plan.riders[hand[r]].looks;
                }
                for (int s = 0; s < STOPS; s++) {
                    ride.halt();
                    ride.board();
                }
                tally(riders, deal == 0);
                dealNext(riders);
            }
            counted = true;
        }

        private void tally(int riders, boolean asTold) {
            for (int r = 0; r < riders; r++) {
                // Who never sat is not shunned at all: NONE lies below every count.
                int shunning = ride.turn[r] == 0 ? NONE : ride.shunning(r);
                if (asTold) {
                    told[r] = shunning;
                }
                if (shunning >= told[r]) {
                    asMuch[r]++;
                }
            }
        }

        // The next order of the hand as in a dictionary; the first deal is the one that is told.
        private void dealNext(int riders) {
            int i = riders - 2;
            while (i >= 0 && hand[i] > hand[i + 1]) {
                i--;
            }
            if (i < 0) {
                return;
            }
            int j = riders - 1;
            while (j > i && hand[j] < hand[i]) {
                j--;
            }
            swap(i, j);
            for (int a = i + 1, b = riders - 1; a < b; a++, b--) {
                swap(a, b);
            }
        }

        private void swap(int i, int j) {
            int kept = hand[i];
            hand[i] = hand[j];
            hand[j] = kept;
        }
    }
}
