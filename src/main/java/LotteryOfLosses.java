import java.util.Arrays;

/** A lottery of losses: what its calls answer is told, promise by promise, in ../shared/DOC.md. */
public final class LotteryOfLosses {
    public static final int BAD = -1, NOT = -2, FULL = -3, STATE = -5, VOID = -2000000000;

    private static final int NOTHING_THERE = -11, OTHER_KIND = -12, NO_PLACE = -13, SIZE_BELOW_ZERO = -14;
    private static final long REFUSED = Long.MIN_VALUE;

    private static final int PEOPLE = 6, THINGS = 8, MOST_TICKETS = 12, NOBODY = -1;
    private static final int LOVES = 0, THING = 1, HOLDER = 2, BLANK = 3, WHETHER_IN = 10, LOST_THINGS = 11;
    private static final int MOST_BYTES = 120, MOST_CHANGES = 40, MOST_BODIES = 50, MOST_TRACED = 24;
    private static final int MOST_TO_SHARE_OUT = 6, MOST_SHARERS = 3;
    private static final int SHELVES = 6, MOST_ELEMENTS = 60;
    private static final int BYTES = 0, SHORTS = 1, INTS = 2, LONGS = 3, BOOLEANS = 4;

    private final Lots lots = new Lots();
    private final Law rule = new Law(lots);
    private final Tape tape = new Tape(rule);
    private final Thought thought = new Thought(lots, rule);
    private final Means means = new Means(lots, rule);
    private final Plans plans = new Plans(lots, thought, means);
    private final Deeds deeds = new Deeds(lots, thought);
    private final Changes changes = new Changes(lots);
    private final Acts acts = new Acts();
    private final Shelves shelves = new Shelves();

    public LotteryOfLosses() {
    }

    // ---- tickets, loves

    public int ticket(int thing, int holder) {
        if (!isThing(thing) || !isHolder(holder)) {
            return BAD;
        }
        return lots.add(thing, holder);
    }

    public int tickets(int shelf, int i, int n) {
        if (!isShelf(shelf) || n < 1 || n > MOST_TICKETS) {
            return BAD;
        }
        if (shelves.holdsNothing(shelf)) {
            return 0;
        }
        if (!shelves.holdsBytes(shelf)) {
            return OTHER_KIND;
        }
        for (int came = 0; came < n; came++) {
            long place = i + 2L * came;
            if (!shelves.hasPlaces(shelf, place, 2)) {
                return came;
            }
            int thing = (int) shelves.at(shelf, place);
            int holder = (int) shelves.at(shelf, place + 1);
            if (ticket(thing, holder) < 0) {
                return came;
            }
        }
        return n;
    }

    public int mend(int number, int what, int v) {
        if (!lots.tells(number, what) || !Lots.allows(what, v)) {
            return VOID;
        }
        int was = lots.told(number, what);
        if (was != v) {
            lots.tell(number, what, v);
            changes.add(number, what, was, v);
        }
        return was;
    }

    public int of(int number, int what) {
        if (what == WHETHER_IN && lots.isTicket(number)) {
            return lots.isIn(number) ? 1 : 0;
        }
        if (what == LOST_THINGS && isPerson(number)) {
            return lots.lostBy(number);
        }
        return lots.told(number, what);
    }

    public int feed(int letter) {
        if (letter < 0 || letter > 255) {
            return BAD;
        }
        return tape.add(letter);
    }

    public int law() {
        int fault = tape.becomesLaw();
        return fault < 0 ? 1 : -100 - fault;
    }

    public int loss(int one, int set) {
        if (!isPerson(one) || !lots.areIn(set)) {
            return VOID;
        }
        return thought.lossBySet(one, set);
    }

    // ---- in thought

    public long mean(int one, int m, int part) {
        if (!isHolder(one) || !lots.canDraw(m)) {
            return REFUSED;
        }
        int sum = one == NOBODY ? means.sumOfAll(m) : means.sumOf(one, m);
        return fraction(sum, lots.waysToDraw(m), part);
    }

    public int worst(int one, int m, int what) {
        if (!isPerson(one) || !lots.canDraw(m) || what < 0 || what > 3) {
            return VOID;
        }
        int set = thought.utmostSet(one, m, what < 2);
        return what % 2 == 1 ? set : thought.lossBySet(one, set);
    }

    public long more(int one, int mx, int part) {
        if (!isPerson(one) || mx < 0 || mx % 2000 > 1998 || !lots.canDraw(mx / 2000)) {
            return REFUSED;
        }
        int m = mx / 2000;
        return fraction(thought.setsAbove(one, m, mx % 2000 - 999), lots.waysToDraw(m), part);
    }

    public long keeps(int ot, int m, int part) {
        if (!isLove(ot) || !lots.canDraw(m)) {
            return REFUSED;
        }
        int one = ot / 10;
        int thing = ot % 10;
        int all = lots.waysToDraw(m);
        if (lots.hasLost(one, thing)) {
            return fraction(0, all, part);
        }
        return fraction(ways(lots.howManyIn() - lots.threatsTo(one, thing), m), all, part);
    }

    public long rid(int ticket, int m, int part) {
        if (!lots.isIn(ticket) || !lots.canDraw(m)) {
            return REFUSED;
        }
        return fraction(plans.reliefBy(ticket, m), lots.waysToDraw(m), part);
    }

    public long given(int ticket, int m, int part) {
        if (!lots.isIn(ticket) || !lots.canDraw(m) || part < 0 || part > 2) {
            return REFUSED;
        }
        int receiver = plans.bestReceiver(ticket, m);
        return part == 2 ? receiver : fraction(plans.leastSum(), lots.waysToDraw(m), part);
    }

    public int swap(int m) {
        return lots.canDraw(m) ? plans.bestSwap(m) : BAD;
    }

    public int cancel(int m) {
        return lots.canDraw(m) ? plans.bestCancel(m) : BAD;
    }

    public long fairest(int mp, int what) {
        int people = mp % 10;
        int m = mp / 10;
        if (people < 1 || people > MOST_SHARERS || !lots.canDraw(m) || what < -2 || what >= lots.size()) {
            return REFUSED;
        }
        if (lots.howManyIn() > MOST_TO_SHARE_OUT) {
            return STATE;
        }
        if (what >= 0 && !lots.isIn(what)) {
            return NOT;
        }
        plans.shareOut(people, m);
        if (what >= 0) {
            return plans.sharerOf(what);
        }
        return fraction(plans.leastSum(), lots.waysToDraw(m), what + 2);
    }

    public int syndicate(int m) {
        return lots.canDraw(m) ? plans.bestSyndicate(m) : BAD;
    }

    // ---- doubts, rings, years seen

    public long forged(int one, int m, int part) {
        if (!isPerson(one) || !lots.canDraw(m)) {
            return REFUSED;
        }
        return fraction(ways(lots.howManyIn() - lots.heldBy(one), m), lots.waysToDraw(m), part);
    }

    public int doubt(int one, int x) {
        if (!isPerson(one) || x < 1 || x > 12) {
            return BAD;
        }
        int in = lots.howManyIn();
        int others = in - lots.heldBy(one);
        for (int m = 0; m <= in; m++) {
            if (12 * ways(others, m) < x * ways(in, m)) {
                return m;
            }
        }
        return NOT;
    }

    public long odds(int set, int m, int part) {
        if (!lots.areIn(set) || !lots.canDraw(m)) {
            return REFUSED;
        }
        int told = Integer.bitCount(set);
        return fraction(ways(lots.howManyIn() - told, m - told), lots.waysToDraw(m), part);
    }

    public int ahead(int one, int set, int what) {
        if (!isPerson(one) || !lots.areIn(set) || what < 0 || what > 2) {
            return VOID;
        }
        if (lots.heldBy(one) == 0) {
            return NOT;
        }
        return plans.giftAhead(one, set, what);
    }

    public int ring(int one, int what) {
        if (!isPerson(one) || what < 0 || what > 1) {
            return BAD;
        }
        int people = plans.ringOf(one);
        if (what == 0) {
            return people;
        }
        return people == 0 ? NOT : plans.wishOf(one);
    }

    public int judge(int shelf) {
        int refusal = refusalOfBytes(shelf);
        return refusal != 0 ? refusal : thought.see(shelves, shelf);
    }

    public int lost(int shelf, int one) {
        if (!isPerson(one) || refusalOfBytes(shelf) != 0) {
            return VOID;
        }
        thought.see(shelves, shelf);
        return thought.lossOf(one);
    }

    public int whose(int shelf, int to, int x) {
        if (!isShelf(shelf) || to < 0 || !lots.isTicket(to / 10) || !isPerson(to % 10) || x < -999 || x > 999) {
            return BAD;
        }
        int refusal = refusalOfBytes(shelf);
        return refusal != 0 ? refusal : whoMayHold(to / 10, shelf, to % 10, x);
    }

    public int drawn(int seed, int nm, int one) {
        int years = nm / 100;
        int m = nm % 100;
        if (years < 1 || years > 20 || m < 1 || m > MOST_TICKETS || !isHolder(one)) {
            return VOID;
        }
        return thought.lossByYears(seed, years, m, one);
    }

    // ---- in deed

    public int draw(int seed) {
        return lots.howManyIn() == 0 ? NOT : deeds.drawBy(seed);
    }

    public int give(int ticket, int one) {
        if (!lots.isTicket(ticket) || !isHolder(one)) {
            return VOID;
        }
        if (!lots.isIn(ticket)) {
            return STATE;
        }
        int was = lots.holderOf(ticket);
        lots.hand(ticket, one);
        return was;
    }

    public int cancels(int ab) {
        int a = ab / 20;
        int b = ab % 20;
        if (a >= b || !lots.isTicket(a) || !lots.isTicket(b)) {
            return BAD;
        }
        if (!lots.cancelEachOther(a, b)) {
            return STATE;
        }
        deeds.cancelBoth(a, b);
        return lots.howManyIn();
    }

    public int year() {
        return deeds.beginYear();
    }

    public int led(int what) {
        return deeds.tell(what);
    }

    public int image() {
        return deeds.keepImage();
    }

    public int back() {
        return deeds.layImageBack();
    }

    public int undo() {
        return changes.takeBack();
    }

    public int redo() {
        return changes.doAgain();
    }

    // ---- acts, shelves

    public int body(int kind) {
        return Acts.isKind(kind) ? acts.add(kind) : BAD;
    }

    public int act(int body, int act, int x) {
        return acts.perform(body, act, x);
    }

    public int trace(int i) {
        return acts.traced(i);
    }

    public int keep(int shelf, int body) {
        if (!isShelf(shelf) || body != -1 && !acts.isBody(body)) {
            return BAD;
        }
        shelves.holdBody(shelf, body);
        return 1;
    }

    public int row(int shelf, int sort, int n) {
        if (!isShelf(shelf) || sort < BYTES || sort > BOOLEANS || n > MOST_ELEMENTS) {
            return BAD;
        }
        if (n < 0) {
            return SIZE_BELOW_ZERO;
        }
        shelves.holdRow(shelf, sort, n);
        return 1;
    }

    public int put(int shelf, int i, long v) {
        int refusal = refusalOfPlaces(shelf, i, 1);
        if (refusal == 0) {
            shelves.store(shelf, i, v);
            return 1;
        }
        return refusal;
    }

    public long element(int shelf, int i) {
        return refusalOfPlaces(shelf, i, 1) == 0 ? shelves.at(shelf, i) : REFUSED;
    }

    public int shift(int shelf, int i, int other, int j, int n) {
        if (!isShelf(shelf) || !isShelf(other)) {
            return BAD;
        }
        if (shelves.holdsNothing(shelf) || shelves.holdsNothing(other)) {
            return NOTHING_THERE;
        }
        if (!shelves.holdRowsOfOneSort(shelf, other)) {
            return OTHER_KIND;
        }
        if (!shelves.hasPlaces(shelf, i, n) || !shelves.hasPlaces(other, j, n)) {
            return NO_PLACE;
        }
        shelves.move(shelf, i, other, j, n);
        return n;
    }

    public int taken(int shelf, int k) {
        if (!isShelf(shelf) || !Acts.isKind(k)) {
            return BAD;
        }
        if (shelves.holdsNothing(shelf)) {
            return NOTHING_THERE;
        }
        int kind = acts.kindOf(shelves.bodyOn(shelf));
        return Acts.isUnder(kind, k) ? kind : OTHER_KIND;
    }

    public int count(int what) {
        switch (what) {
            case 0: return lots.size();
            case 1: return lots.howManyIn();
            case 2: return tape.length();
            case 3: return changes.mayBeUndone();
            case 4: return acts.bodies();
            case 5: return acts.howManyRan();
            default: return BAD;
        }
    }

    // ---- what the calls share

    private static boolean isPerson(int one) {
        return one >= 0 && one < PEOPLE;
    }

    private static boolean isHolder(int one) {
        return one == NOBODY || isPerson(one);
    }

    private static boolean isThing(int thing) {
        return thing >= 0 && thing < THINGS;
    }

    private static boolean isLove(int ot) {
        return ot >= 0 && isPerson(ot / 10) && isThing(ot % 10);
    }

    private static boolean isShelf(int shelf) {
        return shelf >= 0 && shelf < SHELVES;
    }

    private int refusalOfBytes(int shelf) {
        if (!isShelf(shelf)) {
            return BAD;
        }
        if (shelves.holdsNothing(shelf)) {
            return NOTHING_THERE;
        }
        return shelves.holdsBytes(shelf) ? 0 : OTHER_KIND;
    }

    private int refusalOfPlaces(int shelf, int i, int n) {
        if (!isShelf(shelf)) {
            return BAD;
        }
        if (shelves.holdsNothing(shelf)) {
            return NOTHING_THERE;
        }
        if (!shelves.holdsRow(shelf)) {
            return OTHER_KIND;
        }
        return shelves.hasPlaces(shelf, i, n) ? 0 : NO_PLACE;
    }

    private int whoMayHold(int ticket, int shelf, int one, int x) {
        int was = lots.holderOf(ticket);
        int who = 0;
        for (int k = 0; k < PEOPLE; k++) {
            lots.hand(ticket, k);
            thought.see(shelves, shelf);
            if (thought.lossOf(one) == x) {
                who |= 1 << k;
            }
        }
        lots.hand(ticket, was);
        return who;
    }

    /** By how many sets k of n can be chosen. */
    private static int ways(int n, int k) {
        if (k < 0 || k > n) {
            return 0;
        }
        int all = 1;
        for (int i = 1; i <= k; i++) {
            all = all * (n - k + i) / i;
        }
        return all;
    }

    /** Part 0 or 1 (above, below the line) of a fraction in lowest terms. */
    private static long fraction(int above, int below, int part) {
        int shared = greatestDivisor(Math.abs(above), below);
        if (part < 0 || part > 1 || shared <= 0) {
            return REFUSED;
        }
        return (part == 0 ? above : below) / shared;
    }

    private static int greatestDivisor(int a, int b) {
        int x = a;
        int y = b;
        // Euclid's steps halve the numbers every other time, so that 64 are enough for ints.
        for (int i = 0; i < 64 && y != 0; i++) {
            int rest = x % y;
            x = y;
            y = rest;
        }
        return x;
    }

    private static int nextSeed(int z) {
        return z * 1103515245 + 12345;
    }

    /** The people's loves and the tickets, as they are now. */
    private static final class Lots {
        private final int[] loves = new int[PEOPLE * THINGS];
        private final int[] thing = new int[MOST_TICKETS];
        private final int[] holder = new int[MOST_TICKETS];
        private final int[] blank = new int[MOST_TICKETS];
        private final int[] lost = new int[PEOPLE];
        private int size;
        private int in;
        /** A count of its own, not what is out: an image lays it back though tickets may have come since. */
        private int drawnThisYear;
        private int timesLovesChanged;

        Lots() {
            Arrays.fill(loves, 10);
        }

        int add(int itsThing, int itsHolder) {
            if (size >= MOST_TICKETS) {
                return FULL;
            }
            thing[size] = itsThing;
            holder[size] = itsHolder;
            blank[size] = 0;
            in |= 1 << size;
            return size++;
        }

        int size() {
            return size;
        }

        boolean isTicket(int number) {
            return number >= 0 && number < size;
        }

        boolean isIn(int number) {
            return isTicket(number) && (in >> number & 1) == 1;
        }

        boolean areIn(int set) {
            return (set & ~in) == 0;
        }

        int howManyIn() {
            return Integer.bitCount(in);
        }

        void takeOut(int set) {
            in &= ~set;
        }

        void putIn(int set) {
            in |= set;
        }

        int thingOn(int number) {
            return isTicket(number) ? thing[number] : 0;
        }

        boolean isBlank(int number) {
            return isTicket(number) && blank[number] != 0;
        }

        int holderOf(int number) {
            return isTicket(number) ? holder[number] : NOBODY;
        }

        void hand(int number, int one) {
            if (isTicket(number)) {
                holder[number] = one;
            }
        }

        boolean isHeldBy(int number, int one) {
            return isTicket(number) && (in >> number & 1) == 1 && holder[number] == one;
        }

        boolean canDraw(int m) {
            return m >= 0 && m <= howManyIn();
        }

        int waysToDraw(int m) {
            return ways(howManyIn(), m);
        }

        boolean isDrawOf(int set, int m) {
            return areIn(set) && Integer.bitCount(set) == m;
        }

        int heldBy(int one) {
            int held = 0;
            for (int i = 0; i < size; i++) {
                if (isHeldBy(i, one)) {
                    held++;
                }
            }
            return held;
        }

        int lostBy(int one) {
            return isPerson(one) ? lost[one] : 0;
        }

        boolean hasLost(int one, int itsThing) {
            return isPerson(one) && (lost[one] >> itsThing & 1) == 1;
        }

        /** Whether the ticket's holder would lose the thing on it, were it drawn now. */
        boolean threatens(int number, int one) {
            return isHeldBy(number, one) && blank[number] == 0 && !hasLost(one, thing[number]);
        }

        int threatsTo(int one, int itsThing) {
            int threats = 0;
            for (int i = 0; i < size; i++) {
                if (thing[i] == itsThing && threatens(i, one)) {
                    threats++;
                }
            }
            return threats;
        }

        boolean cancelEachOther(int a, int b) {
            return isIn(a) && isIn(b) && a != b && thing[a] == thing[b]
                && holder[a] == holder[b] && holder[a] != NOBODY;
        }

        int love(int one, int itsThing) {
            return isPerson(one) && isThing(itsThing) ? loves[one * THINGS + itsThing] : 0;
        }

        boolean tells(int number, int what) {
            return what == LOVES ? isLove(number) : what >= THING && what <= BLANK && isTicket(number);
        }

        static boolean allows(int what, int v) {
            switch (what) {
                case LOVES: return v >= 0 && v <= 99;
                case THING: return isThing(v);
                case HOLDER: return isHolder(v);
                case BLANK: return v == 0 || v == 1;
                default: return false;
            }
        }

        int told(int number, int what) {
            if (!tells(number, what)) {
                return VOID;
            }
            switch (what) {
                case LOVES: return love(number / 10, number % 10);
                case THING: return thing[number];
                case HOLDER: return holder[number];
                default: return blank[number];
            }
        }

        void tell(int number, int what, int v) {
            if (!tells(number, what)) {
                return;
            }
            switch (what) {
                case LOVES:
                    loves[number / 10 * THINGS + number % 10] = v;
                    timesLovesChanged++;
                    break;
                case THING:
                    thing[number] = v;
                    break;
                case HOLDER:
                    holder[number] = v;
                    break;
                default:
                    blank[number] = v;
                    break;
            }
        }
    }

    /** The law as steps for a stack: a number, a name, or a sign that works on what lies on top. */
    private static final class Law {
        static final String NAMES = "vngtkd";
        /** A minus ahead of an operand: a sign that no text holds, to part it from the minus between two. */
        static final int NEGATIVE = '~';
        private static final int LAST_NAME = -6;
        private static final int MOST_STACKED = 64;

        private final Lots lots;
        private final int[] steps = new int[MOST_BYTES];
        private final int[] middles = new int[MOST_BYTES];
        private final int[] ends = new int[MOST_BYTES];
        private int size;
        private int lines;
        private final int[] named = new int[NAMES.length()];
        private final int[] stack = new int[MOST_STACKED];
        /** Losses worked out already: thoughts ask for the same ones many thousand times. */
        private final int[] known = new int[PEOPLE * THINGS * (THINGS + 1) * (MOST_TICKETS + 1)];
        private int timesChanged;

        Law(Lots lots) {
            this.lots = lots;
            add(-1);
            endLine(0);
        }

        void clear() {
            size = 0;
            lines = 0;
            timesChanged++;
        }

        int size() {
            return size;
        }

        void add(int step) {
            if (size < steps.length) {
                steps[size++] = step;
            }
        }

        /** A line's condition is its steps ahead of middle; it has none, if middle is where it begins. */
        void endLine(int middle) {
            if (lines < ends.length) {
                middles[lines] = middle;
                ends[lines++] = size;
            }
        }

        int lossBy(int one, int thing, int n, int g, int d) {
            if (!isPerson(one) || !isThing(thing) || n < 0 || n > MOST_TICKETS
                || g < 0 || g > THINGS || d < 0 || d > MOST_TICKETS) {
                return 0;
            }
            int place = ((one * THINGS + thing) * (THINGS + 1) + g) * (MOST_TICKETS + 1) + d;
            // never 0, which an entry holds that was not worked out yet
            int stamp = (timesChanged + lots.timesLovesChanged) * 16 + n + 1;
            if (known[place] >> 8 == stamp) {
                return (known[place] & 255) - 128;
            }
            named[0] = lots.love(one, thing);
            named[1] = n;
            named[2] = g;
            named[3] = thing;
            named[4] = one;
            named[5] = d;
            int begin = 0;
            int loss = 0;
            boolean counted = false;
            for (int i = 0; i < lines && !counted; i++) {
                counted = middles[i] == begin || run(begin, middles[i]) != 0;
                if (counted) {
                    loss = run(middles[i], ends[i]);
                }
                begin = ends[i];
            }
            int held = Math.max(-99, Math.min(99, loss));
            known[place] = stamp << 8 | held + 128;
            return held;
        }

        private int run(int from, int to) {
            int high = 0;
            for (int i = from; i < to && i < size; i++) {
                int step = steps[i];
                if (step >= LAST_NAME) {
                    if (high < stack.length) {
                        stack[high++] = step >= 0 ? step : named[-1 - step];
                    }
                } else if (step == -'!' || step == -NEGATIVE) {
                    if (high > 0) {
                        stack[high - 1] = step == -NEGATIVE ? -stack[high - 1] : stack[high - 1] == 0 ? 1 : 0;
                    }
                } else if (high > 1) {
                    high--;
                    stack[high - 1] = joined(-step, stack[high - 1], stack[high]);
                }
            }
            return high > 0 ? stack[high - 1] : 0;
        }

        private static int joined(int sign, int a, int b) {
            switch (sign) {
                case '|': return a != 0 || b != 0 ? 1 : 0;
                case '&': return a != 0 && b != 0 ? 1 : 0;
                case '<': return a < b ? 1 : 0;
                case '=': return a == b ? 1 : 0;
                case '>': return a > b ? 1 : 0;
                case '+': return a + b;
                case '-': return a - b;
                case '*': return a * b;
                case '/': return b == 0 ? 0 : a / b;
                default: return b == 0 ? 0 : a % b;
            }
        }
    }

    /** The tape, and the reading of what is on it as a law. */
    private static final class Tape {
        private static final int LEVELS = 5, COMPARING = 2, MOST_OPEN = 6, MOST_DIGITS = 4;

        private final Law rule;
        private final int[] bytes = new int[MOST_BYTES];
        private int length;
        private int place;
        private boolean writing;

        Tape(Law rule) {
            this.rule = rule;
        }

        int length() {
            return length;
        }

        int add(int letter) {
            if (length >= bytes.length) {
                return FULL;
            }
            bytes[length++] = letter;
            return length;
        }

        /** The fault, or -1. It is read twice, so that a text with a fault leaves the law as it was. */
        int becomesLaw() {
            writing = false;
            int fault = text() ? -1 : place;
            if (fault < 0) {
                writing = true;
                rule.clear();
                text();
            }
            length = 0;
            return fault;
        }

        private boolean text() {
            place = 0;
            for (int i = 0; i <= length; i++) {
                if (!line()) {
                    return false;
                }
                if (took(";") == 0) {
                    return place == length;
                }
            }
            return false;
        }

        private boolean line() {
            int middle = rule.size();
            if (!chain(0, 0)) {
                return false;
            }
            if (took("?") != 0) {
                middle = rule.size();
                if (!chain(0, 0)) {
                    return false;
                }
            }
            if (writing) {
                rule.endLine(middle);
            }
            return true;
        }

        /** E, A, B, S and P of the document are the levels 0 to 4. */
        private boolean chain(int level, int open) {
            if (level >= LEVELS) {
                return operand(open);
            }
            if (!chain(level + 1, open)) {
                return false;
            }
            int most = level == COMPARING ? 1 : length;
            for (int i = 0; i < most; i++) {
                int sign = took(signsOf(level));
                if (sign == 0) {
                    return true;
                }
                if (!chain(level + 1, open)) {
                    return false;
                }
                write(-sign);
            }
            return true;
        }

        private static String signsOf(int level) {
            switch (level) {
                case 0: return "|";
                case 1: return "&";
                case COMPARING: return "<=>";
                case 3: return "+-";
                default: return "*/%";
            }
        }

        private boolean operand(int open) {
            if (isDigitNext()) {
                write(number());
                return true;
            }
            int name = took(Law.NAMES);
            if (name != 0) {
                write(-1 - Law.NAMES.indexOf((char) name));
                return true;
            }
            int opening = open < MOST_OPEN ? took("(!-") : 0;
            if (opening == 0) {
                return false;
            }
            if (opening == '(') {
                return chain(0, open + 1) && took(")") != 0;
            }
            if (!operand(open + 1)) {
                return false;
            }
            write(opening == '!' ? -'!' : -Law.NEGATIVE);
            return true;
        }

        private int number() {
            int value = 0;
            for (int i = 0; i < MOST_DIGITS && isDigitNext(); i++) {
                value = value * 10 + bytes[place] - '0';
                place++;
            }
            return value;
        }

        private boolean isDigitNext() {
            return place < length && bytes[place] >= '0' && bytes[place] <= '9';
        }

        /** The next byte, if it is one of the signs, and goes on behind it; 0 if it is not. */
        private int took(String signs) {
            if (place < length && signs.indexOf((char) bytes[place]) >= 0) {
                return bytes[place++];
            }
            return 0;
        }

        private void write(int step) {
            if (writing) {
                rule.add(step);
            }
        }
    }

    /** Draws tried in thought: a copy of what they change, so that the lots stay as they are. */
    private static final class Thought {
        private final Lots lots;
        private final Law rule;
        private final int[] lost = new int[PEOPLE];
        private final int[] held = new int[PEOPLE];
        private final int[] loss = new int[PEOPLE];
        private int in;
        private int drawnThisYear;

        Thought(Lots lots, Law rule) {
            this.lots = lots;
            this.rule = rule;
        }

        void begin() {
            in = lots.in;
            drawnThisYear = lots.drawnThisYear;
            for (int k = 0; k < PEOPLE; k++) {
                lost[k] = lots.lostBy(k);
                held[k] = 0;
                loss[k] = 0;
            }
            for (int i = 0; i < lots.size(); i++) {
                int k = lots.holderOf(i);
                if (lots.isIn(i) && isPerson(k)) {
                    held[k]++;
                }
            }
        }

        int lossOf(int one) {
            return isPerson(one) ? loss[one] : 0;
        }

        int lossOfAll() {
            int all = 0;
            for (int k = 0; k < PEOPLE; k++) {
                all += loss[k];
            }
            return all;
        }

        /** One of several drawn at once: those of one draw count as held till all are drawn. */
        private void fall(int ticket) {
            int k = lots.holderOf(ticket);
            if (isPerson(k) && !lots.isBlank(ticket)) {
                int thing = lots.thingOn(ticket);
                if ((lost[k] >> thing & 1) == 0) {
                    loss[k] += rule.lossBy(k, thing, held[k], Integer.bitCount(lost[k]), drawnThisYear);
                    lost[k] |= 1 << thing;
                }
            }
            drawnThisYear++;
        }

        /** A draw of its own. */
        void fallAlone(int ticket) {
            fall(ticket);
            in &= ~(1 << ticket);
            int k = lots.holderOf(ticket);
            if (isPerson(k)) {
                held[k]--;
            }
        }

        void fallTogether(int set) {
            begin();
            for (int i = 0; i < lots.size(); i++) {
                if ((set >> i & 1) == 1) {
                    fall(i);
                }
            }
        }

        int lossBySet(int one, int set) {
            fallTogether(set);
            return lossOf(one);
        }

        /** The set by which one loses most (or least). */
        int utmostSet(int one, int m, boolean most) {
            int utmost = 0;
            int found = NOT;
            for (int set = 0; set < 1 << lots.size(); set++) {
                if (lots.isDrawOf(set, m)) {
                    int by = lossBySet(one, set);
                    if (found < 0 || (most ? by > utmost : by < utmost)) {
                        utmost = by;
                        found = set;
                    }
                }
            }
            return found;
        }

        int setsAbove(int one, int m, int x) {
            int above = 0;
            for (int set = 0; set < 1 << lots.size(); set++) {
                if (lots.isDrawOf(set, m) && lossBySet(one, set) > x) {
                    above++;
                }
            }
            return above;
        }

        /** The place of the first ticket of a row that was not in; NOT, if all were. The losses ahead of it stay. */
        int see(Shelves shelves, int shelf) {
            begin();
            int seen = shelves.lengthOf(shelf);
            for (int i = 0; i < seen; i++) {
                int ticket = (int) shelves.at(shelf, i);
                if (!lots.isTicket(ticket) || (in >> ticket & 1) == 0) {
                    return i;
                }
                fallAlone(ticket);
            }
            return NOT;
        }

        int lossByYears(int seed, int years, int m, int one) {
            int z = seed;
            int all = 0;
            for (int year = 0; year < years; year++) {
                begin();
                for (int i = 0; i < m && in != 0; i++) {
                    z = nextSeed(z);
                    fallAlone(pick(z));
                }
                all += one == NOBODY ? lossOfAll() : lossOf(one);
            }
            return all;
        }

        /** The ticket that a seed draws of those that are in. */
        int pick(int z) {
            int many = Integer.bitCount(in);
            int rank = many == 0 ? 0 : (z >>> 8) % many;
            for (int i = 0; i < MOST_TICKETS; i++) {
                if ((in >> i & 1) == 1 && rank-- == 0) {
                    return i;
                }
            }
            return NOT;
        }
    }

    /**
     * Sums of losses over all sets of m draws. The sets are not gone through one by one, but ticket by ticket:
     * how many sets of j drawn so far leave one with which things lost, and their losses together.
     */
    private static final class Means {
        private final Lots lots;
        private final Law rule;
        private final int[] sets = new int[(MOST_TICKETS + 1) << THINGS];
        private final int[] sums = new int[(MOST_TICKETS + 1) << THINGS];
        private final int[] bitOf = new int[THINGS];
        private int states;
        private int held;

        Means(Lots lots, Law rule) {
            this.lots = lots;
            this.rule = rule;
        }

        int sumOfAll(int m) {
            int all = 0;
            for (int k = 0; k < PEOPLE; k++) {
                all += sumOf(k, m);
            }
            return all;
        }

        int sumOf(int one, int m) {
            begin(one, m);
            if (states == 1) {
                return 0;
            }
            int seen = 0;
            for (int i = 0; i < lots.size(); i++) {
                if (lots.isIn(i)) {
                    for (int j = Math.min(seen, m - 1); j >= 0; j--) {
                        drawNext(one, i, j);
                    }
                    seen++;
                }
            }
            int all = 0;
            for (int s = 0; s < states; s++) {
                all += sums[m * states + s];
            }
            return all;
        }

        /** Each thing that one may still lose gets a bit, so that few things make few states. */
        private void begin(int one, int m) {
            Arrays.fill(bitOf, 0);
            states = 1;
            for (int i = 0; i < lots.size(); i++) {
                if (lots.threatens(i, one) && bitOf[lots.thingOn(i)] == 0) {
                    bitOf[lots.thingOn(i)] = states;
                    states <<= 1;
                }
            }
            held = lots.heldBy(one);
            Arrays.fill(sets, 0, (m + 1) * states, 0);
            Arrays.fill(sums, 0, (m + 1) * states, 0);
            sets[0] = 1;
        }

        private void drawNext(int one, int ticket, int j) {
            int thing = lots.thingOn(ticket);
            int bit = lots.threatens(ticket, one) ? bitOf[thing] : 0;
            int lostAhead = Integer.bitCount(lots.lostBy(one));
            for (int s = 0; s < states; s++) {
                int from = j * states + s;
                int to = (j + 1) * states + (s | bit);
                if (sets[from] != 0) {
                    if ((s | bit) != s) {
                        int by = rule.lossBy(one, thing, held, lostAhead + Integer.bitCount(s), lots.drawnThisYear + j);
                        sums[to] += by * sets[from];
                    }
                    sets[to] += sets[from];
                    sums[to] += sums[from];
                }
            }
        }
    }

    /** Tickets given, swapped, cancelled and shared out in thought: each is tried on the lots and laid back. */
    private static final class Plans {
        private final Lots lots;
        private final Thought thought;
        private final Means means;
        private final int[] meanSums = new int[PEOPLE];
        private final int[] worsts = new int[1 << PEOPLE];
        private final int[] together = new int[1 << PEOPLE];
        private final int[] inNumbers = new int[MOST_TICKETS];
        private final int[] keptHolders = new int[MOST_TICKETS];
        private final int[] shareSums = new int[MOST_SHARERS << MOST_TO_SHARE_OUT];
        private final int[] sharers = new int[MOST_TICKETS];
        private final int[] shares = new int[MOST_SHARERS];
        private final int[] wished = new int[PEOPLE];
        private int leastSum;
        private int swappedSum;

        Plans(Lots lots, Thought thought, Means means) {
            this.lots = lots;
            this.thought = thought;
            this.means = means;
        }

        /** What the latest plan comes to, over all sets of draws. */
        int leastSum() {
            return leastSum;
        }

        int reliefBy(int ticket, int m) {
            int holder = lots.holderOf(ticket);
            if (holder == NOBODY) {
                return 0;
            }
            int before = means.sumOf(holder, m);
            lots.hand(ticket, NOBODY);
            int after = means.sumOf(holder, m);
            lots.hand(ticket, holder);
            return before - after;
        }

        int bestReceiver(int ticket, int m) {
            int was = lots.holderOf(ticket);
            int best = NOBODY;
            for (int k = 0; k < PEOPLE; k++) {
                lots.hand(ticket, k);
                int sum = means.sumOfAll(m);
                if (best == NOBODY || sum < leastSum) {
                    leastSum = sum;
                    best = k;
                }
            }
            lots.hand(ticket, was);
            return best;
        }

        int bestSwap(int m) {
            for (int k = 0; k < PEOPLE; k++) {
                meanSums[k] = means.sumOf(k, m);
            }
            int best = NOT;
            for (int a = 0; a < lots.size(); a++) {
                for (int b = a + 1; b < lots.size(); b++) {
                    if (canSwap(a, b) && gainBySwap(a, b, m) && (best == NOT || swappedSum < leastSum)) {
                        leastSum = swappedSum;
                        best = 20 * a + b;
                    }
                }
            }
            return best;
        }

        private boolean canSwap(int a, int b) {
            int k = lots.holderOf(a);
            int l = lots.holderOf(b);
            return lots.isIn(a) && lots.isIn(b) && k != l && k != NOBODY && l != NOBODY;
        }

        /** Whether the swap hurts neither and helps one; what both lose then is left in swappedSum. */
        private boolean gainBySwap(int a, int b, int m) {
            int k = lots.holderOf(a);
            int l = lots.holderOf(b);
            lots.hand(a, l);
            lots.hand(b, k);
            int kSum = means.sumOf(k, m);
            int lSum = means.sumOf(l, m);
            lots.hand(a, k);
            lots.hand(b, l);
            swappedSum = kSum + lSum;
            return kSum <= meanSums[k] && lSum <= meanSums[l] && swappedSum < meanSums[k] + meanSums[l];
        }

        int bestCancel(int m) {
            int most = Math.min(m, lots.howManyIn() - 2);
            int best = NOT;
            for (int a = 0; a < lots.size(); a++) {
                for (int b = a + 1; b < lots.size(); b++) {
                    if (lots.cancelEachOther(a, b)) {
                        int both = 1 << a | 1 << b;
                        lots.takeOut(both);
                        int sum = means.sumOfAll(most);
                        lots.putIn(both);
                        if (best == NOT || sum < leastSum) {
                            leastSum = sum;
                            best = 20 * a + b;
                        }
                    }
                }
            }
            return best;
        }

        void shareOut(int people, int m) {
            if (people < 1 || people > MOST_SHARERS) {
                return;
            }
            int many = numberThoseIn();
            weighShares(people, m, many);
            int all = 1;
            for (int i = 0; i < many; i++) {
                all *= people;
            }
            int best = NOT;
            for (int way = 0; way < all; way++) {
                int greatest = greatestOf(way, people, many);
                if (best == NOT || greatest < leastSum) {
                    leastSum = greatest;
                    best = way;
                }
            }
            int rest = best;
            for (int i = many - 1; i >= 0; i--) {
                sharers[inNumbers[i]] = rest % people;
                rest /= people;
            }
        }

        int sharerOf(int ticket) {
            return lots.isTicket(ticket) ? sharers[ticket] : NOT;
        }

        private int numberThoseIn() {
            int many = 0;
            for (int i = 0; i < lots.size(); i++) {
                if (lots.isIn(i) && many < MOST_TO_SHARE_OUT) {
                    inNumbers[many++] = i;
                }
            }
            return many;
        }

        /** What each would lose by each set of tickets: who holds the others is no matter for that. */
        private void weighShares(int people, int m, int many) {
            for (int i = 0; i < many; i++) {
                keptHolders[i] = lots.holderOf(inNumbers[i]);
            }
            for (int share = 0; share < 1 << many; share++) {
                for (int k = 0; k < people; k++) {
                    for (int i = 0; i < many; i++) {
                        lots.hand(inNumbers[i], (share >> i & 1) == 1 ? k : NOBODY);
                    }
                    shareSums[k << MOST_TO_SHARE_OUT | share] = means.sumOf(k, m);
                }
            }
            for (int i = 0; i < many; i++) {
                lots.hand(inNumbers[i], keptHolders[i]);
            }
        }

        /** A way to share out tells the holders as the digits of a number, the first ticket's foremost. */
        private int greatestOf(int way, int people, int many) {
            if (people < 1 || people > MOST_SHARERS) {
                return 0;
            }
            Arrays.fill(shares, 0);
            int rest = way;
            for (int i = many - 1; i >= 0; i--) {
                shares[rest % people] |= 1 << i;
                rest /= people;
            }
            int greatest = shareSums[shares[0]];
            for (int k = 1; k < people; k++) {
                greatest = Math.max(greatest, shareSums[k << MOST_TO_SHARE_OUT | shares[k]]);
            }
            return greatest;
        }

        int bestSyndicate(int m) {
            findWorsts(m);
            int best = NOT;
            int most = 1;
            for (int set = 1; set < 1 << PEOPLE; set++) {
                int people = Integer.bitCount(set);
                if (people > most && allStay(set, people)) {
                    most = people;
                    best = set;
                }
            }
            return best;
        }

        private boolean allStay(int set, int people) {
            for (int k = 0; k < PEOPLE; k++) {
                if ((set >> k & 1) == 1 && worsts[set] > people * worsts[1 << k]) {
                    return false;
                }
            }
            return true;
        }

        /** The worst of each set of people together. */
        private void findWorsts(int m) {
            boolean first = true;
            for (int draw = 0; draw < 1 << lots.size(); draw++) {
                if (lots.isDrawOf(draw, m)) {
                    thought.fallTogether(draw);
                    addUp();
                    for (int set = 1; set < 1 << PEOPLE; set++) {
                        worsts[set] = first ? together[set] : Math.max(worsts[set], together[set]);
                    }
                    first = false;
                }
            }
        }

        /** The losses in thought of each set of people together, from those of the set without its last one. */
        private void addUp() {
            for (int k = 0; k < PEOPLE; k++) {
                for (int others = 0; others < 1 << k; others++) {
                    together[1 << k | others] = together[others] + thought.lossOf(k);
                }
            }
        }

        /** The ticket to give away (what 0), to whom (1), one's loss then (2). */
        int giftAhead(int one, int set, int what) {
            int gift = NOT;
            int receiver = NOT;
            int own = 0;
            int others = 0;
            for (int i = 0; i < lots.size(); i++) {
                if (lots.isHeldBy(i, one)) {
                    for (int k = 0; k < PEOPLE; k++) {
                        if (k != one) {
                            lots.hand(i, k);
                            int ownThen = thought.lossBySet(one, set);
                            int othersThen = thought.lossOf(k);
                            if (gift == NOT || ownThen < own || ownThen == own && othersThen > others) {
                                gift = i;
                                receiver = k;
                                own = ownThen;
                                others = othersThen;
                            }
                        }
                    }
                    lots.hand(i, one);
                }
            }
            return what == 0 ? gift : what == 1 ? receiver : own;
        }

        /** How many people go round in the ring that one is in; 0, if it is in none. */
        int ringOf(int one) {
            int offered = 0;
            for (int k = 0; k < PEOPLE; k++) {
                int ticket = wishedAway(k);
                if (ticket != NOT) {
                    offered |= 1 << ticket;
                }
            }
            for (int k = 0; k < PEOPLE; k++) {
                wished[k] = lots.heldBy(k) == 0 ? NOT : lots.holderOf(wantedBy(k, offered));
            }
            int k = wishOf(one);
            for (int people = 1; people <= PEOPLE; people++) {
                if (k == one) {
                    return people;
                }
                k = wishOf(k);
            }
            return 0;
        }

        /** Whose ticket one would take, as ringOf() found it. */
        int wishOf(int one) {
            return isPerson(one) ? wished[one] : NOT;
        }

        private int wishedAway(int one) {
            int best = NOT;
            for (int i = 0; i < lots.size(); i++) {
                if (lots.isHeldBy(i, one) && (best == NOT || isLovedMore(one, i, best))) {
                    best = i;
                }
            }
            return best;
        }

        private int wantedBy(int one, int offered) {
            int best = NOT;
            for (int i = 0; i < lots.size(); i++) {
                if ((offered >> i & 1) == 1 && (best == NOT || isLovedMore(one, best, i))) {
                    best = i;
                }
            }
            return best;
        }

        private boolean isLovedMore(int one, int a, int b) {
            return lots.love(one, lots.thingOn(a)) > lots.love(one, lots.thingOn(b));
        }
    }

    /** Draws, cancellations and years in deed, what is led of them, and an image of all that. */
    private static final class Deeds {
        private static final int DRAWN = 0, CANCELLED = 1, YEARS = 2, LOSSES = 3, LED = LOSSES + PEOPLE;

        private final Lots lots;
        private final Thought thought;
        private final int[] totals = new int[LED];
        private boolean hasImage;
        private int imageSize;
        private int imageIn;
        private int imageDrawnThisYear;
        private final int[] imageHolders = new int[MOST_TICKETS];
        private final int[] imageLost = new int[PEOPLE];
        private final int[] imageTotals = new int[LED];

        Deeds(Lots lots, Thought thought) {
            this.lots = lots;
            this.thought = thought;
        }

        int drawBy(int seed) {
            thought.begin();
            int ticket = thought.pick(nextSeed(seed));
            if (!lots.isIn(ticket)) {
                return NOT;
            }
            thought.fallAlone(ticket);
            lots.in = thought.in;
            lots.drawnThisYear = thought.drawnThisYear;
            totals[DRAWN]++;
            for (int k = 0; k < PEOPLE; k++) {
                lots.lost[k] = thought.lost[k];
                totals[LOSSES + k] += thought.lossOf(k);
            }
            return ticket;
        }

        void cancelBoth(int a, int b) {
            lots.takeOut(1 << a | 1 << b);
            totals[CANCELLED] += 2;
        }

        int beginYear() {
            lots.putIn((1 << lots.size()) - 1);
            lots.drawnThisYear = 0;
            Arrays.fill(lots.lost, 0);
            return ++totals[YEARS];
        }

        int tell(int what) {
            if (what >= DRAWN && what <= YEARS) {
                return totals[what];
            }
            return isPerson(what - 10) ? totals[LOSSES + what - 10] : VOID;
        }

        int keepImage() {
            hasImage = true;
            imageSize = lots.size();
            imageIn = lots.in;
            imageDrawnThisYear = lots.drawnThisYear;
            System.arraycopy(lots.holder, 0, imageHolders, 0, MOST_TICKETS);
            System.arraycopy(lots.lost, 0, imageLost, 0, PEOPLE);
            System.arraycopy(totals, 0, imageTotals, 0, LED);
            return totals[YEARS];
        }

        int layImageBack() {
            if (!hasImage) {
                return STATE;
            }
            int cameSince = -1 << imageSize;
            lots.in = imageIn | lots.in & cameSince;
            lots.drawnThisYear = imageDrawnThisYear;
            System.arraycopy(imageHolders, 0, lots.holder, 0, imageSize);
            System.arraycopy(imageLost, 0, lots.lost, 0, PEOPLE);
            System.arraycopy(imageTotals, 0, totals, 0, LED);
            return totals[YEARS];
        }
    }

    /** The latest changes, those that may be undone ahead of those that may be done again. */
    private static final class Changes {
        private final Lots lots;
        private final int[] numbers = new int[MOST_CHANGES];
        private final int[] whats = new int[MOST_CHANGES];
        private final int[] before = new int[MOST_CHANGES];
        private final int[] after = new int[MOST_CHANGES];
        private int standing;
        private int kept;

        Changes(Lots lots) {
            this.lots = lots;
        }

        int mayBeUndone() {
            return standing;
        }

        void add(int number, int what, int was, int becomes) {
            if (standing == MOST_CHANGES) {
                forgetOldest(numbers);
                forgetOldest(whats);
                forgetOldest(before);
                forgetOldest(after);
                standing--;
            }
            numbers[standing] = number;
            whats[standing] = what;
            before[standing] = was;
            after[standing] = becomes;
            standing++;
            kept = standing;
        }

        private static void forgetOldest(int[] row) {
            System.arraycopy(row, 1, row, 0, MOST_CHANGES - 1);
        }

        int takeBack() {
            if (standing == 0) {
                return STATE;
            }
            standing--;
            lots.tell(numbers[standing], whats[standing], before[standing]);
            return standing;
        }

        int doAgain() {
            if (standing == kept) {
                return STATE;
            }
            lots.tell(numbers[standing], whats[standing], after[standing]);
            standing++;
            return kept - standing;
        }
    }

    /** Losses of kinds, and the acts whose bodies come from their own kind or from above. */
    private static final class Acts {
        private static final int KINDS = 8, ACTS = 4, TAKES = 0, GRIEVES = 1, KEEPS = 2, TELLS = 3;
        private static final int DEEPEST = 40;
        /** The topmost kind is told as above itself; it has a body for each act. */
        private static final int[] ABOVE = {0, 0, 0, 2, 1, 3, 0, 4};
        /** Of each kind the bodies of the four acts; 0: none of its own. */
        private static final int[] BODIES = {
            1, 10, 11, 2,
            20, 0, 0, 0,
            0, 30, 0, 0,
            0, 41, 40, 0,
            0, 0, 50, 0,
            0, 0, 0, 60,
            70, 0, 0, 0,
            0, 80, 0, 81,
        };

        private final int[] kinds = new int[MOST_BODIES];
        private final int[] begun = new int[MOST_TRACED];
        private int size;
        private int ran;
        private int number;

        static boolean isKind(int kind) {
            return kind >= 0 && kind < KINDS;
        }

        static boolean isUnder(int kind, int k) {
            int above = kind;
            for (int i = 0; i < KINDS && isKind(above); i++) {
                if (above == k) {
                    return true;
                }
                above = ABOVE[above];
            }
            return false;
        }

        int add(int kind) {
            if (size >= MOST_BODIES) {
                return FULL;
            }
            kinds[size] = kind;
            return size++;
        }

        boolean isBody(int body) {
            return body >= 0 && body < size;
        }

        int kindOf(int body) {
            return isBody(body) ? kinds[body] : NOT;
        }

        int bodies() {
            return size;
        }

        int howManyRan() {
            return ran;
        }

        int traced(int i) {
            return i >= 0 && i < ran && i < MOST_TRACED ? begun[i] : BAD;
        }

        int perform(int body, int act, int x) {
            ran = 0;
            if (!isBody(body) || act < TAKES || act > TELLS) {
                return 0;
            }
            number = body;
            return find(kinds[body], act, x, 0);
        }

        /** Runs the body of a kind, or of the next kind above that has one. */
        private int find(int kind, int act, int x, int deep) {
            int its = kind;
            for (int i = 0; i < KINDS && BODIES[its * ACTS + act] == 0; i++) {
                its = ABOVE[its];
            }
            if (deep > DEEPEST) {
                return 0;
            }
            int body = BODIES[its * ACTS + act];
            if (ran < MOST_TRACED) {
                begun[ran] = body;
            }
            ran++;
            return run(body, ABOVE[its], x, deep + 1);
        }

        private int run(int body, int above, int x, int deep) {
            int own = kinds[number];
            switch (body) {
                case 1: return x + number;
                case 2: return find(own, GRIEVES, x, deep) - find(own, KEEPS, 1, deep);
                case 10: return find(own, TAKES, x, deep) * 2;
                case 11: return x ^ number;
                case 20: return find(above, TAKES, x, deep) + 3;
                case 30: return -find(above, GRIEVES, x, deep);
                case 40: return find(above, KEEPS, x, deep) * 3;
                case 41: return find(above, GRIEVES, x + 1, deep);
                case 50: return find(above, KEEPS, x, deep) - find(own, TAKES, 2, deep);
                case 60: return find(above, TELLS, x, deep) ^ 5;
                case 70: return find(above, TAKES, x, deep) * 2;
                case 80: return find(above, GRIEVES, x, deep) + find(own, KEEPS, 2, deep);
                case 81: return find(above, TELLS, x, deep) - 1;
                default: return 0;
            }
        }
    }

    /** What the shelves hold. Each has room for the longest row from the first on. */
    private static final class Shelves {
        private static final int NOTHING = 0, BODY = 1, ROW = 2;

        private final int[] holds = new int[SHELVES];
        private final int[] bodies = new int[SHELVES];
        private final int[] sorts = new int[SHELVES];
        private final int[] lengths = new int[SHELVES];
        private final long[] elements = new long[SHELVES * MOST_ELEMENTS];

        boolean holdsNothing(int shelf) {
            return !isShelf(shelf) || holds[shelf] == NOTHING;
        }

        boolean holdsRow(int shelf) {
            return isShelf(shelf) && holds[shelf] == ROW;
        }

        boolean holdsBytes(int shelf) {
            return holdsRow(shelf) && sorts[shelf] == BYTES;
        }

        boolean holdRowsOfOneSort(int shelf, int other) {
            return holdsRow(shelf) && holdsRow(other) && sorts[shelf] == sorts[other];
        }

        int bodyOn(int shelf) {
            return isShelf(shelf) && holds[shelf] == BODY ? bodies[shelf] : NOT;
        }

        int lengthOf(int shelf) {
            return holdsRow(shelf) ? lengths[shelf] : 0;
        }

        /** As the host looks at a range: neither its begin nor its length may be below 0. */
        boolean hasPlaces(int shelf, long i, int n) {
            return i >= 0 && n >= 0 && i + n <= lengthOf(shelf);
        }

        void holdBody(int shelf, int body) {
            if (isShelf(shelf)) {
                holds[shelf] = body < 0 ? NOTHING : BODY;
                bodies[shelf] = body;
            }
        }

        void holdRow(int shelf, int sort, int n) {
            if (isShelf(shelf)) {
                holds[shelf] = ROW;
                sorts[shelf] = sort;
                lengths[shelf] = n;
                Arrays.fill(elements, shelf * MOST_ELEMENTS, (shelf + 1) * MOST_ELEMENTS, 0L);
            }
        }

        long at(int shelf, long i) {
            return hasPlaces(shelf, i, 1) ? elements[shelf * MOST_ELEMENTS + (int) i] : 0;
        }

        void store(int shelf, int i, long v) {
            if (hasPlaces(shelf, i, 1)) {
                elements[shelf * MOST_ELEMENTS + i] = kept(sorts[shelf], v);
            }
        }

        private static long kept(int sort, long v) {
            switch (sort) {
                case BYTES: return (byte) v;
                case SHORTS: return (short) v;
                case INTS: return (int) v;
                case LONGS: return v;
                default: return v != 0 ? 1 : 0;
            }
        }

        void move(int shelf, int i, int other, int j, int n) {
            if (hasPlaces(shelf, i, n) && hasPlaces(other, j, n)) {
                System.arraycopy(elements, shelf * MOST_ELEMENTS + i, elements, other * MOST_ELEMENTS + j, n);
            }
        }
    }
}
