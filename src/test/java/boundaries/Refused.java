import java.util.ArrayList;
import java.util.List;

/** Calls that may change nothing: those that refuse, and those that are in thought alone. */
final class Refused extends Boundaries {
    private interface Call {
        long of(LotteryOfLosses x);
    }

    private interface Maker {
        LotteryOfLosses make();
    }

    private static Maker maker;
    private static List<Long> untouched;

    private Refused() {
    }

    static void run() {
        from(Refused::lived);
        ticketsRefused();
        thoughtsRefused();
        doubtsRefused();
        deedsRefused();
        shelvesRefused();
        from(Refused::full);
        refuses("ticket() of a thirteenth", x -> x.ticket(0, 0), FULL);
        refuses("feed() of a 121st", x -> x.feed('v'), FULL);
        refuses("body() of a 51st", x -> x.body(0), FULL);
        refuses("fairest() of twelve", x -> x.fairest(11, -2), STATE);
        refuses("tickets() of a thirteenth", x -> x.tickets(0, 0, 1), 0);
        from(LotteryOfLosses::new);
        refuses("draw() of no ticket", x -> x.draw(1), NOT);
        refuses("back() without an image", LotteryOfLosses::back, STATE);
        refuses("undo() of no change", LotteryOfLosses::undo, STATE);
        refuses("redo() of no change", LotteryOfLosses::redo, STATE);
        refuses("trace() of no act", x -> x.trace(0), BAD);
        refuses("tickets() from a missing row", x -> x.tickets(0, 0, 1), 0);
    }

    /** What is in thought alone leaves all as it was. */
    static void thoughts() {
        from(Refused::lived);
        leaves("loss()", x -> x.loss(0, 3));
        for (int m = 0; m <= 4; m++) {
            int n = m;
            leaves("mean()", x -> x.mean(-1, n, 0));
            leaves("worst()", x -> x.worst(0, n, 0) + x.worst(0, n, 3));
            leaves("more()", x -> x.more(0, 2000 * n + 999, 0));
            leaves("keeps()", x -> x.keeps(0, n, 0));
            leaves("rid()", x -> x.rid(0, n, 0) + x.rid(1, n, 1));
            leaves("given()", x -> x.given(1, n, 2));
            leaves("swap()", x -> x.swap(n));
            leaves("cancel()", x -> x.cancel(n));
            leaves("fairest()", x -> x.fairest(10 * n + 3, -2) + x.fairest(10 * n + 2, 1));
            leaves("syndicate()", x -> x.syndicate(n));
            leaves("forged()", x -> x.forged(0, n, 0));
            leaves("odds()", x -> x.odds(1, n, 0));
        }
        leaves("doubt()", x -> x.doubt(0, 6));
        leaves("ahead()", x -> x.ahead(0, 3, 0));
        leaves("ring()", x -> x.ring(0, 0) + x.ring(5, 1));
        leaves("judge()", x -> x.judge(0));
        leaves("lost()", x -> x.lost(0, 0));
        leaves("whose()", x -> x.whose(0, 10, 12));
        leaves("drawn()", x -> x.drawn(3, 2012, -1));
    }

    private static void from(Maker made) {
        maker = made;
        untouched = everything(maker.make());
    }

    private static void refuses(String name, Call call, long want) {
        LotteryOfLosses x = maker.make();
        is(name, call.of(x), want);
        is(name + ": whether all is as it was", everything(x).equals(untouched) ? 1 : 0, 1);
    }

    private static void leaves(String name, Call call) {
        LotteryOfLosses x = maker.make();
        call.of(x);
        is(name + ": whether all is as it was", everything(x).equals(untouched) ? 1 : 0, 1);
    }

    private static void feed(LotteryOfLosses x, String text) {
        for (char c : text.toCharArray()) {
            x.feed(c);
        }
    }

    /** An object in which there is something of all that a call could change; ticket 3 is drawn, no other is out. */
    private static LotteryOfLosses lived() {
        LotteryOfLosses x = new LotteryOfLosses();
        feed(x, "v+t-d-g+n");
        x.law();
        feed(x, "9+");
        x.ticket(0, 0);
        x.ticket(0, 0);
        x.ticket(1, 5);
        x.ticket(2, 1);
        x.ticket(3, -1);
        x.year();
        int seed = 0;
        while ((next(seed) >>> 8) % 5 != 3) {
            seed++;
        }
        x.draw(seed);
        x.image();
        x.give(2, 4);
        x.mend(0, 0, 33);
        x.mend(1, 3, 1);
        x.mend(51, 0, 44);
        x.undo();
        x.body(0);
        x.body(7);
        x.act(1, 1, 5);
        x.row(0, 0, 3);
        x.put(0, 0, 2);
        x.put(0, 2, 1);
        x.keep(1, 1);
        x.row(2, 1, 2);
        x.put(2, 1, -5);
        x.row(4, 0, 0);
        x.row(5, 3, 2);
        x.put(5, 0, Long.MAX_VALUE);
        return x;
    }

    private static LotteryOfLosses full() {
        LotteryOfLosses x = new LotteryOfLosses();
        for (int i = 0; i < 12; i++) {
            x.ticket(i % 8, i % 6);
        }
        for (int i = 0; i < 50; i++) {
            x.body(i % 8);
        }
        feed(x, "v+".repeat(58) + "v?77");
        x.row(0, 0, 2);
        return x;
    }

    /** All that can be asked, and what only calls that change something tell; the object is done with then. */
    private static List<Long> everything(LotteryOfLosses x) {
        List<Long> all = new ArrayList<>();
        for (int what = 0; what < 6; what++) {
            all.add((long) x.count(what));
        }
        for (int number = 0; number < 58; number++) {
            if (number % 10 < 8) {
                all.add((long) x.of(number, 0));
            }
        }
        for (int shelf = 0; shelf < 6; shelf++) {
            all.add((long) x.taken(shelf, 0));
            for (int i = 0; i < 3; i++) {
                all.add(x.element(shelf, i));
            }
        }
        for (int i = 0; i < 6; i++) {
            all.add((long) x.trace(i));
        }
        lotsOf(x, all);
        for (int i = 0; i < 4; i++) {
            all.add((long) x.redo());
        }
        all.add((long) x.of(51, 0));
        for (int i = 0; i < 5; i++) {
            all.add((long) x.undo());
        }
        all.add((long) x.back());
        lotsOf(x, all);
        all.add((long) x.feed('1'));
        all.add((long) x.law());
        all.add((long) x.loss(0, 1));
        return all;
    }

    private static void lotsOf(LotteryOfLosses x, List<Long> all) {
        for (int ticket = 0; ticket < x.count(0); ticket++) {
            for (int what : new int[] {1, 2, 3, 10}) {
                all.add((long) x.of(ticket, what));
            }
            all.add((long) x.loss(x.of(ticket, 2), 1 << ticket));
        }
        for (int one = 0; one < 6; one++) {
            all.add((long) x.of(one, 11));
            all.add((long) x.led(10 + one));
        }
        for (int what = 0; what < 3; what++) {
            all.add((long) x.led(what));
        }
    }

    private static void ticketsRefused() {
        refuses("ticket() of thing 8", x -> x.ticket(8, 0), BAD);
        refuses("ticket() of thing -1", x -> x.ticket(-1, 0), BAD);
        refuses("ticket() of holder 6", x -> x.ticket(0, 6), BAD);
        refuses("ticket() of holder -2", x -> x.ticket(0, -2), BAD);
        refuses("tickets() from shelf 6", x -> x.tickets(6, 0, 1), BAD);
        refuses("tickets() of none", x -> x.tickets(0, 1, 0), BAD);
        refuses("tickets() of thirteen", x -> x.tickets(0, 1, 13), BAD);
        refuses("tickets() from a loss", x -> x.tickets(1, 0, 1), OTHER_KIND);
        refuses("tickets() from shorts", x -> x.tickets(2, 0, 1), OTHER_KIND);
        refuses("mend() of love 58", x -> x.mend(58, 0, 1), VOID);
        refuses("mend() of love 60", x -> x.mend(60, 0, 1), VOID);
        refuses("mend() of love -1", x -> x.mend(-1, 0, 1), VOID);
        refuses("mend() of love to 100", x -> x.mend(0, 0, 100), VOID);
        refuses("mend() of love to -1", x -> x.mend(0, 0, -1), VOID);
        refuses("mend() of ticket 5", x -> x.mend(5, 1, 0), VOID);
        refuses("mend() of thing to 8", x -> x.mend(0, 1, 8), VOID);
        refuses("mend() of thing to -1", x -> x.mend(0, 1, -1), VOID);
        refuses("mend() of holder to 6", x -> x.mend(0, 2, 6), VOID);
        refuses("mend() of holder to -2", x -> x.mend(0, 2, -2), VOID);
        refuses("mend() of blank to 2", x -> x.mend(0, 3, 2), VOID);
        refuses("mend() of what 4", x -> x.mend(0, 4, 0), VOID);
        refuses("mend() of what 10", x -> x.mend(0, 10, 0), VOID);
        refuses("mend() of what 11", x -> x.mend(0, 11, 0), VOID);
        refuses("of() ticket 5", x -> x.of(5, 10), VOID);
        refuses("feed() of -1", x -> x.feed(-1), BAD);
        refuses("feed() of 256", x -> x.feed(256), BAD);
    }

    private static void thoughtsRefused() {
        refuses("loss() of 6", x -> x.loss(6, 1), VOID);
        refuses("loss() by what is not IN", x -> x.loss(0, 1 + 8), VOID);
        refuses("mean() by 5", x -> x.mean(0, 5, 0), NONE);
        refuses("mean() of part 2", x -> x.mean(0, 2, 2), NONE);
        refuses("worst() by 5", x -> x.worst(0, 5, 0), VOID);
        refuses("worst() of what 4", x -> x.worst(0, 2, 4), VOID);
        refuses("more() than 1000", x -> x.more(0, 1999, 0), NONE);
        refuses("keeps() of thing 8", x -> x.keeps(8, 1, 0), NONE);
        refuses("rid() of what is not IN", x -> x.rid(3, 1, 0), NONE);
        refuses("rid() of part 2", x -> x.rid(0, 1, 2), NONE);
        refuses("given() of what is not IN", x -> x.given(3, 1, 0), NONE);
        refuses("given() of part 3", x -> x.given(0, 1, 3), NONE);
        refuses("swap() by 5", x -> x.swap(5), BAD);
        refuses("swap() of nobody who gains", x -> x.swap(0), NOT);
        refuses("cancel() by 5", x -> x.cancel(5), BAD);
        refuses("fairest() to four", x -> x.fairest(14, -2), NONE);
        refuses("fairest() of what is not IN", x -> x.fairest(11, 3), NOT);
        refuses("syndicate() by 5", x -> x.syndicate(5), BAD);
    }

    private static void doubtsRefused() {
        refuses("forged() by 5", x -> x.forged(0, 5, 0), NONE);
        refuses("doubt() of 13", x -> x.doubt(0, 13), BAD);
        refuses("doubt() of who holds none", x -> x.doubt(3, 12), NOT);
        refuses("odds() of what is not IN", x -> x.odds(8, 2, 0), NONE);
        refuses("ahead() by what is not IN", x -> x.ahead(0, 8, 0), VOID);
        refuses("ahead() of who holds none", x -> x.ahead(3, 1, 0), NOT);
        refuses("ring() of what 2", x -> x.ring(0, 2), BAD);
        refuses("ring() of who holds none", x -> x.ring(3, 1), NOT);
        refuses("judge() of nothing", x -> x.judge(3), NOTHING_THERE);
        refuses("judge() of shorts", x -> x.judge(2), OTHER_KIND);
        refuses("judge() of none", x -> x.judge(4), NOT);
        refuses("lost() by a loss", x -> x.lost(1, 0), VOID);
        refuses("whose() of 1000", x -> x.whose(0, 10, 1000), BAD);
        refuses("whose() by nothing", x -> x.whose(3, 10, 0), NOTHING_THERE);
        refuses("whose() by shorts", x -> x.whose(2, 10, 0), OTHER_KIND);
        refuses("drawn() of 21 years", x -> x.drawn(1, 2101, 0), VOID);
        refuses("drawn() by 13 draws", x -> x.drawn(1, 113, 0), VOID);
    }

    private static void deedsRefused() {
        refuses("give() to 6", x -> x.give(0, 6), VOID);
        refuses("give() of ticket 5", x -> x.give(5, 0), VOID);
        refuses("give() of what is not IN", x -> x.give(3, 0), STATE);
        refuses("cancels() of the other first", x -> x.cancels(20), BAD);
        refuses("cancels() of one", x -> x.cancels(0), BAD);
        refuses("cancels() of ticket 5", x -> x.cancels(5), BAD);
        refuses("cancels() of unlike ones", x -> x.cancels(2), STATE);
        refuses("cancels() of what is not IN", x -> x.cancels(3), STATE);
        refuses("led() of what 3", x -> x.led(3), VOID);
    }

    private static void shelvesRefused() {
        refuses("body() of kind 8", x -> x.body(8), BAD);
        refuses("body() of kind -1", x -> x.body(-1), BAD);
        refuses("trace() of -1", x -> x.trace(-1), BAD);
        refuses("trace() of 24", x -> x.trace(24), BAD);
        refuses("keep() on shelf 6", x -> x.keep(6, 0), BAD);
        refuses("keep() of body 2", x -> x.keep(0, 2), BAD);
        refuses("keep() of body -2", x -> x.keep(0, -2), BAD);
        refuses("row() on shelf 6", x -> x.row(6, 0, 1), BAD);
        refuses("row() of sort 5", x -> x.row(0, 5, 1), BAD);
        refuses("row() of sixty-one", x -> x.row(0, 0, 61), BAD);
        refuses("row() of -1", x -> x.row(0, 0, -1), BELOW_0);
        refuses("put() on shelf 6", x -> x.put(6, 0, 1), BAD);
        refuses("put() to nothing", x -> x.put(3, 0, 1), NOTHING_THERE);
        refuses("put() to a loss", x -> x.put(1, 0, 1), OTHER_KIND);
        refuses("put() at -1", x -> x.put(5, -1, 1), NO_PLACE);
        refuses("put() at 3", x -> x.put(0, 3, 1), NO_PLACE);
        refuses("element() at 3", x -> x.element(0, 3), NONE);
        refuses("shift() to shelf 6", x -> x.shift(0, 0, 6, 0, 1), BAD);
        refuses("shift() to nothing", x -> x.shift(0, 0, 3, 0, 1), NOTHING_THERE);
        refuses("shift() to shorts", x -> x.shift(0, 0, 2, 0, 1), OTHER_KIND);
        refuses("shift() of too many", x -> x.shift(0, 0, 0, 1, 3), NO_PLACE);
        refuses("shift() of -1", x -> x.shift(0, 1, 0, 0, -1), NO_PLACE);
        refuses("taken() for kind 8", x -> x.taken(1, 8), BAD);
        refuses("taken() for another kind", x -> x.taken(1, 2), OTHER_KIND);
        refuses("count() of what 6", x -> x.count(6), BAD);
    }
}
