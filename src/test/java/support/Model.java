import java.math.BigInteger;
import java.util.ArrayList;
import java.util.List;
import java.util.Map;
import java.util.TreeSet;

/**
 * The document once more, told as plainly as can be (every set of draws gone through, every plan tried on a copy),
 * for runs in which the class must answer the same.
 */
final class Model {
    static final int BAD = -1, NOT = -2, FULL = -3, STATE = -5, VOID = -2000000000;
    static final long NONE = Long.MIN_VALUE;

    /** What draws depend on; plans are tried on copies of it. */
    static final class World {
        int[][] loves = new int[6][8];
        List<int[]> tickets = new ArrayList<>(); // thing, holder, blank, in
        List<TreeSet<Integer>> lost = new ArrayList<>();
        int drawn;
        String law = "v";
        int[] loss = new int[6];

        World() {
            for (int[] row : loves) {
                java.util.Arrays.fill(row, 10);
            }
            for (int k = 0; k < 6; k++) {
                lost.add(new TreeSet<>());
            }
        }

        World copy() {
            World w = new World();
            w.loves = loves;
            for (int[] t : tickets) {
                w.tickets.add(t.clone());
            }
            for (int k = 0; k < 6; k++) {
                w.lost.set(k, new TreeSet<>(lost.get(k)));
            }
            w.drawn = drawn;
            w.law = law;
            return w;
        }

        List<Integer> in() {
            List<Integer> all = new ArrayList<>();
            for (int i = 0; i < tickets.size(); i++) {
                if (tickets.get(i)[3] == 1) {
                    all.add(i);
                }
            }
            return all;
        }

        List<Integer> ofOne(int one) {
            List<Integer> all = in();
            all.removeIf(i -> tickets.get(i)[1] != one);
            return all;
        }

        /** Draws the tickets of a set in order; n of each holder as it was ahead of them all. */
        void drawTogether(List<Integer> set) {
            int[] n = new int[6];
            for (int k = 0; k < 6; k++) {
                n[k] = ofOne(k).size();
            }
            for (int i : set) {
                int[] t = tickets.get(i);
                int k = t[1];
                if (t[2] == 0 && k != -1 && !lost.get(k).contains(t[0])) {
                    loss[k] += LawText.loss(law, Map.of('v', loves[k][t[0]], 'n', n[k], 'g', lost.get(k).size(),
                        't', t[0], 'k', k, 'd', drawn));
                    lost.get(k).add(t[0]);
                }
                t[3] = 0;
                drawn++;
            }
        }

        int[] lossesBy(List<Integer> set) {
            World w = copy();
            w.drawTogether(set);
            return w.loss;
        }
    }

    World w = new World();
    List<Integer> tape = new ArrayList<>();
    int drawnEver, cancelledEver, years;
    int[] lossEver = new int[6];
    Object[] imageKept;
    List<int[]> done = new ArrayList<>();
    List<int[]> undone = new ArrayList<>();
    List<Integer> kinds = new ArrayList<>();
    List<Integer> ran = new ArrayList<>();
    Object[] shelves = new Object[6]; // null, Integer (a body), Row

    static final class Row {
        int sort;
        long[] elements;
    }

    static boolean person(int k) {
        return 0 <= k && k < 6;
    }

    boolean number(int ticket) {
        return 0 <= ticket && ticket < w.tickets.size();
    }

    boolean in(int ticket) {
        return number(ticket) && w.tickets.get(ticket)[3] == 1;
    }

    List<Integer> bits(int set) {
        List<Integer> all = new ArrayList<>();
        for (int i = 0; i < 32; i++) {
            if ((set & 1 << i) != 0) {
                all.add(i);
            }
        }
        return all;
    }

    boolean allIn(int set) {
        return bits(set).stream().allMatch(this::in);
    }

    boolean draws(int m) {
        return m >= 0 && m <= w.in().size();
    }

    static int asBits(List<Integer> set) {
        return set.stream().mapToInt(i -> 1 << i).sum();
    }

    /** All sets of m of those in, the least bits first. */
    static List<List<Integer>> sets(World w, int m) {
        List<Integer> in = w.in();
        List<List<Integer>> all = new ArrayList<>();
        for (int chosen = 0; chosen < 1 << in.size(); chosen++) {
            if (Integer.bitCount(chosen) == m) {
                List<Integer> set = new ArrayList<>();
                for (int i = 0; i < in.size(); i++) {
                    if ((chosen >> i & 1) == 1) {
                        set.add(in.get(i));
                    }
                }
                all.add(set);
            }
        }
        return all;
    }

    static long part(long above, long below, int part) {
        if (part != 0 && part != 1) {
            return NONE;
        }
        long gcd = BigInteger.valueOf(above).gcd(BigInteger.valueOf(below)).longValueExact();
        return part == 0 ? above / gcd : below / gcd;
    }

    static long sum(World w, int one, int m) {
        long all = 0;
        for (List<Integer> set : sets(w, m)) {
            int[] loss = w.lossesBy(set);
            for (int k = 0; k < 6; k++) {
                all += one == -1 || one == k ? loss[k] : 0;
            }
        }
        return all;
    }

    World held(int ticket, int one) {
        World then = w.copy();
        then.tickets.get(ticket)[1] = one;
        return then;
    }

    // ---- tickets, loves

    int ticket(int thing, int holder) {
        if (thing < 0 || thing > 7 || holder < -1 || holder > 5) {
            return BAD;
        }
        if (w.tickets.size() == 12) {
            return FULL;
        }
        w.tickets.add(new int[] {thing, holder, 0, 1});
        return w.tickets.size() - 1;
    }

    int tickets(int shelf, int i, int n) {
        if (shelf < 0 || shelf > 5 || n < 1 || n > 12) {
            return BAD;
        }
        if (shelves[shelf] == null) {
            return 0;
        }
        if (!(shelves[shelf] instanceof Row) || ((Row) shelves[shelf]).sort != 0) {
            return -12;
        }
        long[] row = ((Row) shelves[shelf]).elements;
        int came = 0;
        for (long at = i; came < n && at >= 0 && at + 1 < row.length; at += 2) {
            if (ticket((int) row[(int) at], (int) row[(int) at + 1]) < 0) {
                break;
            }
            came++;
        }
        return came;
    }

    int mend(int number, int what, int v) {
        int was = of(number, what);
        boolean so = what == 0 ? v >= 0 && v <= 99 : what == 1 ? v >= 0 && v <= 7
            : what == 2 ? v >= -1 && v <= 5 : what == 3 && v >= 0 && v <= 1;
        if (was == VOID || !so) {
            return VOID;
        }
        if (was != v) {
            set(number, what, v);
            done.add(new int[] {number, what, was, v});
            undone.clear();
            if (done.size() > 40) {
                done.remove(0);
            }
        }
        return was;
    }

    private void set(int number, int what, int v) {
        if (what == 0) {
            w.loves[number / 10][number % 10] = v;
        } else {
            w.tickets.get(number)[what - 1] = v;
        }
    }

    int of(int number, int what) {
        if (what == 0) {
            return number >= 0 && number < 60 && number % 10 < 8 ? w.loves[number / 10][number % 10] : VOID;
        }
        if (what == 11) {
            return person(number) ? asBits(new ArrayList<>(w.lost.get(number))) : VOID;
        }
        if (!number(number)) {
            return VOID;
        }
        return what >= 1 && what <= 3 ? w.tickets.get(number)[what - 1] : what == 10 ? w.tickets.get(number)[3] : VOID;
    }

    int feed(int letter) {
        if (letter < 0 || letter > 255) {
            return BAD;
        }
        if (tape.size() == 120) {
            return FULL;
        }
        tape.add(letter);
        return tape.size();
    }

    int law() {
        StringBuilder text = new StringBuilder();
        tape.forEach(b -> text.append((char) (int) b));
        tape.clear();
        int fault = LawText.fault(text.toString());
        if (fault >= 0) {
            return -100 - fault;
        }
        w.law = text.toString();
        return 1;
    }

    int loss(int one, int set) {
        return person(one) && allIn(set) ? w.lossesBy(bits(set))[one] : VOID;
    }

    // ---- in thought

    long mean(int one, int m, int part) {
        if (one != -1 && !person(one) || !draws(m)) {
            return NONE;
        }
        return part(sum(w, one, m), sets(w, m).size(), part);
    }

    int worst(int one, int m, int what) {
        if (!person(one) || !draws(m) || what < 0 || what > 3) {
            return VOID;
        }
        int best = what < 2 ? Integer.MIN_VALUE : Integer.MAX_VALUE;
        int by = 0;
        for (List<Integer> set : sets(w, m)) {
            int loss = w.lossesBy(set)[one];
            if (what < 2 ? loss > best : loss < best) {
                best = loss;
                by = asBits(set);
            }
        }
        return what == 0 || what == 2 ? best : by;
    }

    long more(int one, int mx, int part) {
        if (!person(one) || mx < 0 || mx % 2000 == 1999 || !draws(mx / 2000)) {
            return NONE;
        }
        List<List<Integer>> sets = sets(w, mx / 2000);
        return part(sets.stream().filter(s -> w.lossesBy(s)[one] > mx % 2000 - 999).count(), sets.size(), part);
    }

    long keeps(int ot, int m, int part) {
        if (ot < 0 || ot > 57 || ot % 10 > 7 || !draws(m)) {
            return NONE;
        }
        List<List<Integer>> sets = sets(w, m);
        long kept = 0;
        for (List<Integer> set : sets) {
            World then = w.copy();
            then.drawTogether(set);
            kept += then.lost.get(ot / 10).contains(ot % 10) ? 0 : 1;
        }
        return part(kept, sets.size(), part);
    }

    long rid(int ticket, int m, int part) {
        if (!in(ticket) || !draws(m)) {
            return NONE;
        }
        int holder = w.tickets.get(ticket)[1];
        long less = holder == -1 ? 0 : sum(w, holder, m) - sum(held(ticket, -1), holder, m);
        return part(less, sets(w, m).size(), part);
    }

    long given(int ticket, int m, int part) {
        if (!in(ticket) || !draws(m) || part < 0 || part > 2) {
            return NONE;
        }
        long least = Long.MAX_VALUE;
        int who = -1;
        for (int k = 0; k < 6; k++) {
            long sum = sum(held(ticket, k), -1, m);
            if (sum < least) {
                least = sum;
                who = k;
            }
        }
        return part == 2 ? who : part(least, sets(w, m).size(), part);
    }

    int swap(int m) {
        if (!draws(m)) {
            return BAD;
        }
        long least = Long.MAX_VALUE;
        int best = NOT;
        for (int a : w.in()) {
            for (int b : w.in()) {
                int k = w.tickets.get(a)[1];
                int l = w.tickets.get(b)[1];
                if (a < b && k != l && k >= 0 && l >= 0) {
                    World then = held(a, l);
                    then.tickets.get(b)[1] = k;
                    long kThen = sum(then, k, m);
                    long lThen = sum(then, l, m);
                    long kNow = sum(w, k, m);
                    long lNow = sum(w, l, m);
                    if (kThen <= kNow && lThen <= lNow && (kThen < kNow || lThen < lNow) && kThen + lThen < least) {
                        least = kThen + lThen;
                        best = 20 * a + b;
                    }
                }
            }
        }
        return best;
    }

    private boolean pair(int a, int b) {
        int[] s = w.tickets.get(a);
        int[] t = w.tickets.get(b);
        return in(a) && in(b) && s[0] == t[0] && s[1] == t[1] && s[1] >= 0;
    }

    int cancel(int m) {
        if (!draws(m)) {
            return BAD;
        }
        long least = Long.MAX_VALUE;
        int best = NOT;
        for (int a : w.in()) {
            for (int b : w.in()) {
                if (a < b && pair(a, b)) {
                    World then = w.copy();
                    then.tickets.get(a)[3] = 0;
                    then.tickets.get(b)[3] = 0;
                    long sum = sum(then, -1, Math.min(m, then.in().size()));
                    if (sum < least) {
                        least = sum;
                        best = 20 * a + b;
                    }
                }
            }
        }
        return best;
    }

    long fairest(int mp, int what) {
        if (mp < 0 || mp % 10 < 1 || mp % 10 > 3 || !draws(mp / 10) || what < -2 || what >= w.tickets.size()) {
            return NONE;
        }
        List<Integer> in = w.in();
        if (in.size() > 6) {
            return STATE;
        }
        if (what >= 0 && !in(what)) {
            return NOT;
        }
        int p = mp % 10;
        long least = Long.MAX_VALUE;
        World best = null;
        int[] holders = new int[in.size()];
        boolean more = true;
        while (more) {
            World then = w.copy();
            for (int i = 0; i < holders.length; i++) {
                then.tickets.get(in.get(i))[1] = holders[i];
            }
            long greatest = Long.MIN_VALUE;
            for (int k = 0; k < p; k++) {
                greatest = Math.max(greatest, sum(then, k, mp / 10));
            }
            if (greatest < least) {
                least = greatest;
                best = then;
            }
            int i = holders.length - 1;
            while (i >= 0 && holders[i] == p - 1) {
                holders[i--] = 0;
            }
            more = i >= 0;
            if (more) {
                holders[i]++;
            }
        }
        return what >= 0 ? best.tickets.get(what)[1] : part(least, sets(w, mp / 10).size(), what + 2);
    }

    int syndicate(int m) {
        if (!draws(m)) {
            return BAD;
        }
        List<int[]> losses = new ArrayList<>();
        sets(w, m).forEach(s -> losses.add(w.lossesBy(s)));
        int best = NOT;
        for (int set = 0; set < 64; set++) {
            List<Integer> who = bits(set);
            if (who.size() < 2 || best != NOT && who.size() <= Integer.bitCount(best)) {
                continue;
            }
            int together = losses.stream().mapToInt(l -> who.stream().mapToInt(k -> l[k]).sum()).max().getAsInt();
            // shared alike, each bears together / size: no fraction is needed to hold that against its own
            if (who.stream().allMatch(k -> together <= who.size() * losses.stream().mapToInt(l -> l[k]).max().getAsInt())) {
                best = set;
            }
        }
        return best;
    }

    // ---- doubts, rings, years seen

    private long[] unharmed(int one, int m) {
        List<List<Integer>> sets = sets(w, m);
        return new long[] {sets.stream().filter(s -> s.stream().allMatch(i -> w.tickets.get(i)[1] != one)).count(), sets.size()};
    }

    long forged(int one, int m, int part) {
        return person(one) && draws(m) ? part(unharmed(one, m)[0], unharmed(one, m)[1], part) : NONE;
    }

    int doubt(int one, int x) {
        if (!person(one) || x < 1 || x > 12) {
            return BAD;
        }
        for (int m = 0; m <= w.in().size(); m++) {
            long[] u = unharmed(one, m);
            if (u[0] * 12 < u[1] * x) {
                return m;
            }
        }
        return NOT;
    }

    long odds(int set, int m, int part) {
        if (!allIn(set) || !draws(m)) {
            return NONE;
        }
        List<List<Integer>> sets = sets(w, m);
        return part(sets.stream().filter(s -> s.containsAll(bits(set))).count(), sets.size(), part);
    }

    int ahead(int one, int set, int what) {
        if (!person(one) || !allIn(set) || what < 0 || what > 2) {
            return VOID;
        }
        int[] best = null;
        for (int a : w.ofOne(one)) {
            for (int k = 0; k < 6; k++) {
                if (k != one) {
                    int[] loss = held(a, k).lossesBy(bits(set));
                    if (best == null || loss[one] < best[2] || loss[one] == best[2] && loss[k] > best[3]) {
                        best = new int[] {a, k, loss[one], loss[k]};
                    }
                }
            }
        }
        return best == null ? NOT : best[what];
    }

    int ring(int one, int what) {
        if (!person(one) || what < 0 || what > 1) {
            return BAD;
        }
        List<Integer> wishedAway = new ArrayList<>();
        for (int k = 0; k < 6; k++) {
            int[] loves = w.loves[k];
            w.ofOne(k).stream().max((a, b) -> {
                int by = Integer.compare(loves[w.tickets.get(a)[0]], loves[w.tickets.get(b)[0]]);
                return by != 0 ? by : Integer.compare(b, a);
            }).ifPresent(wishedAway::add);
        }
        int[] to = new int[6];
        for (int k = 0; k < 6; k++) {
            int[] loves = w.loves[k];
            to[k] = w.ofOne(k).isEmpty() ? -1 : wishedAway.stream().min((a, b) -> {
                int by = Integer.compare(loves[w.tickets.get(a)[0]], loves[w.tickets.get(b)[0]]);
                return by != 0 ? by : Integer.compare(a, b);
            }).map(t -> w.tickets.get(t)[1]).get();
        }
        List<Integer> way = new ArrayList<>();
        int k = one;
        while (k >= 0 && !way.contains(k)) {
            way.add(k);
            k = to[k];
        }
        boolean round = k == one && to[one] >= 0;
        return what == 0 ? round ? way.size() : 0 : round ? to[one] : NOT;
    }

    private int noBytes(int shelf) {
        if (shelf < 0 || shelf > 5) {
            return BAD;
        }
        if (shelves[shelf] == null) {
            return -11;
        }
        return shelves[shelf] instanceof Row && ((Row) shelves[shelf]).sort == 0 ? 0 : -12;
    }

    private static int see(World w, Row row) {
        for (int i = 0; i < row.elements.length; i++) {
            int t = (int) row.elements[i];
            if (!w.in().contains(t)) {
                return i;
            }
            w.drawTogether(List.of(t));
        }
        return NOT;
    }

    int judge(int shelf) {
        return noBytes(shelf) != 0 ? noBytes(shelf) : see(w.copy(), (Row) shelves[shelf]);
    }

    int lost(int shelf, int one) {
        if (!person(one) || noBytes(shelf) != 0) {
            return VOID;
        }
        World then = w.copy();
        see(then, (Row) shelves[shelf]);
        return then.loss[one];
    }

    int whose(int shelf, int to, int x) {
        if (shelf < 0 || shelf > 5 || to < 0 || !number(to / 10) || to % 10 > 5 || x < -999 || x > 999) {
            return BAD;
        }
        if (noBytes(shelf) != 0) {
            return noBytes(shelf);
        }
        int who = 0;
        for (int k = 0; k < 6; k++) {
            World then = held(to / 10, k);
            see(then, (Row) shelves[shelf]);
            who |= then.loss[to % 10] == x ? 1 << k : 0;
        }
        return who;
    }

    private static int pick(World w, int z) {
        return w.in().get((z >>> 8) % w.in().size());
    }

    int drawn(int seed, int nm, int one) {
        if (nm < 0 || nm / 100 < 1 || nm / 100 > 20 || nm % 100 < 1 || nm % 100 > 12 || one < -1 || one > 5) {
            return VOID;
        }
        int z = seed;
        int all = 0;
        for (int n = 0; n < nm / 100; n++) {
            World then = w.copy();
            for (int m = 0; m < nm % 100 && !then.in().isEmpty(); m++) {
                z = z * 1103515245 + 12345;
                then.drawTogether(List.of(pick(then, z)));
            }
            for (int k = 0; k < 6; k++) {
                all += one == -1 || one == k ? then.loss[k] : 0;
            }
        }
        return all;
    }

    // ---- in deed

    int draw(int seed) {
        if (w.in().isEmpty()) {
            return NOT;
        }
        int t = pick(w, seed * 1103515245 + 12345);
        w.loss = new int[6];
        w.drawTogether(List.of(t));
        for (int k = 0; k < 6; k++) {
            lossEver[k] += w.loss[k];
        }
        drawnEver++;
        return t;
    }

    int give(int ticket, int one) {
        if (!number(ticket) || one < -1 || one > 5) {
            return VOID;
        }
        if (!in(ticket)) {
            return STATE;
        }
        int was = w.tickets.get(ticket)[1];
        w.tickets.get(ticket)[1] = one;
        return was;
    }

    int cancels(int ab) {
        if (ab < 0 || ab / 20 >= ab % 20 || !number(ab % 20)) {
            return BAD;
        }
        if (!pair(ab / 20, ab % 20)) {
            return STATE;
        }
        w.tickets.get(ab / 20)[3] = 0;
        w.tickets.get(ab % 20)[3] = 0;
        cancelledEver += 2;
        return w.in().size();
    }

    int year() {
        w.tickets.forEach(t -> t[3] = 1);
        w.lost.forEach(TreeSet::clear);
        w.drawn = 0;
        return ++years;
    }

    int led(int what) {
        switch (what) {
            case 0: return drawnEver;
            case 1: return cancelledEver;
            case 2: return years;
            default: return what >= 10 && what <= 15 ? lossEver[what - 10] : VOID;
        }
    }

    int image() {
        imageKept = new Object[] {w.copy(), new int[] {drawnEver, cancelledEver, years}, lossEver.clone()};
        return years;
    }

    int back() {
        if (imageKept == null) {
            return STATE;
        }
        World then = ((World) imageKept[0]).copy();
        for (int i = 0; i < then.tickets.size(); i++) {
            w.tickets.get(i)[1] = then.tickets.get(i)[1];
            w.tickets.get(i)[3] = then.tickets.get(i)[3];
        }
        w.lost = then.lost;
        w.drawn = then.drawn;
        int[] totals = (int[]) imageKept[1];
        drawnEver = totals[0];
        cancelledEver = totals[1];
        years = totals[2];
        lossEver = ((int[]) imageKept[2]).clone();
        return years;
    }

    int undo() {
        if (done.isEmpty()) {
            return STATE;
        }
        int[] c = done.remove(done.size() - 1);
        set(c[0], c[1], c[2]);
        undone.add(c);
        return done.size();
    }

    int redo() {
        if (undone.isEmpty()) {
            return STATE;
        }
        int[] c = undone.remove(undone.size() - 1);
        set(c[0], c[1], c[3]);
        done.add(c);
        return undone.size();
    }

    // ---- acts, shelves

    int body(int kind) {
        if (kind < 0 || kind > 7) {
            return BAD;
        }
        if (kinds.size() == 50) {
            return FULL;
        }
        kinds.add(kind);
        return kinds.size() - 1;
    }

    int act(int body, int act, int x) {
        ran = new ArrayList<>();
        if (body < 0 || body >= kinds.size() || act < 0 || act > 3) {
            return 0;
        }
        Bodies.Loss loss = Bodies.made(kinds.get(body), body, ran);
        switch (act) {
            case 0: return loss.takes(x);
            case 1: return loss.grieves(x);
            case 2: return loss.keeps(x);
            default: return loss.tells(x);
        }
    }

    int trace(int i) {
        return i >= 0 && i < Math.min(24, ran.size()) ? ran.get(i) : BAD;
    }

    int keep(int shelf, int body) {
        if (shelf < 0 || shelf > 5 || body < -1 || body >= kinds.size()) {
            return BAD;
        }
        shelves[shelf] = body == -1 ? null : Integer.valueOf(body);
        return 1;
    }

    int row(int shelf, int sort, int n) {
        if (shelf < 0 || shelf > 5 || sort < 0 || sort > 4 || n > 60) {
            return BAD;
        }
        if (n < 0) {
            return -14;
        }
        Row row = new Row();
        row.sort = sort;
        row.elements = new long[n];
        shelves[shelf] = row;
        return 1;
    }

    private int noElement(int shelf, int i) {
        if (shelf < 0 || shelf > 5) {
            return BAD;
        }
        if (shelves[shelf] == null) {
            return -11;
        }
        if (!(shelves[shelf] instanceof Row)) {
            return -12;
        }
        return i < 0 || i >= ((Row) shelves[shelf]).elements.length ? -13 : 0;
    }

    int put(int shelf, int i, long v) {
        if (noElement(shelf, i) != 0) {
            return noElement(shelf, i);
        }
        Row row = (Row) shelves[shelf];
        row.elements[i] = row.sort == 4 ? (v == 0 ? 0 : 1) : v << new int[] {56, 48, 32, 0}[row.sort] >> new int[] {56, 48, 32, 0}[row.sort];
        return 1;
    }

    long element(int shelf, int i) {
        return noElement(shelf, i) != 0 ? NONE : ((Row) shelves[shelf]).elements[i];
    }

    int shift(int shelf, int i, int other, int j, int n) {
        if (shelf < 0 || shelf > 5 || other < 0 || other > 5) {
            return BAD;
        }
        if (shelves[shelf] == null || shelves[other] == null) {
            return -11;
        }
        if (!(shelves[shelf] instanceof Row) || !(shelves[other] instanceof Row)
            || ((Row) shelves[shelf]).sort != ((Row) shelves[other]).sort) {
            return -12;
        }
        try {
            System.arraycopy(((Row) shelves[shelf]).elements, i, ((Row) shelves[other]).elements, j, n);
        } catch (IndexOutOfBoundsException e) {
            return -13;
        }
        return n;
    }

    int taken(int shelf, int k) {
        if (shelf < 0 || shelf > 5 || k < 0 || k > 7) {
            return BAD;
        }
        if (shelves[shelf] == null) {
            return -11;
        }
        if (shelves[shelf] instanceof Row) {
            return -12;
        }
        int kind = kinds.get((Integer) shelves[shelf]);
        return Bodies.made(k, 0, ran).getClass().isInstance(Bodies.made(kind, 0, ran)) ? kind : -12;
    }

    int count(int what) {
        switch (what) {
            case 0: return w.tickets.size();
            case 1: return w.in().size();
            case 2: return tape.size();
            case 3: return done.size();
            case 4: return kinds.size();
            case 5: return ran.size();
            default: return BAD;
        }
    }
}
