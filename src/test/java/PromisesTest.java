/** Each promise by itself: ordinary inputs, the edges that the document names, and wrong inputs. */
public final class PromisesTest {
    private static final long NONE = Long.MIN_VALUE;
    private static final int LEAST = Integer.MIN_VALUE, MOST = Integer.MAX_VALUE;
    private static LotteryOfLosses x;

    private PromisesTest() {
    }

    public static void main(String[] args) {
        beginning();
        ticketsAndLoves();
        lawAndLoss();
        meansAndWorsts();
        plans();
        fairness();
        allOfOne();
        doubts();
        toldAheadAndRings();
        yearsSeen();
        yearsBySeeds();
        deeds();
        images();
        changes();
        acts();
        shelves();
        Due.end();
    }

    private static void is(String call, long got, long want) {
        Due.is(call, got, want);
    }

    /** A new object with tickets told as thing, holder, thing, holder, .. */
    private static void lots(int... twos) {
        x = new LotteryOfLosses();
        for (int i = 0; i + 1 < twos.length; i += 2) {
            is("ticket", x.ticket(twos[i], twos[i + 1]), i / 2);
        }
    }

    private static int law(String text) {
        for (char c : text.toCharArray()) {
            x.feed(c);
        }
        return x.law();
    }

    private static void bytes(int shelf, int... elements) {
        x.row(shelf, 0, elements.length);
        for (int i = 0; i < elements.length; i++) {
            x.put(shelf, i, elements[i]);
        }
    }

    private static void fraction(String call, long above, long below, long wantAbove, long wantBelow) {
        is(call + " above", above, wantAbove);
        is(call + " below", below, wantBelow);
    }

    /** Promise 1. */
    private static void beginning() {
        lots();
        for (int what = 0; what < 6; what++) {
            is("1: count", x.count(what), 0);
        }
        for (int one = 0; one < 6; one++) {
            for (int thing = 0; thing < 8; thing++) {
                is("1: of", x.of(10 * one + thing, 0), 10);
            }
            is("1: lost", x.of(one, 11), 0);
            is("1: led", x.led(10 + one), 0);
        }
        for (int shelf = 0; shelf < 6; shelf++) {
            is("1: shelf", x.taken(shelf, 0), -11);
        }
        is("1: trace", x.trace(0), -1);
        is("BAD", LotteryOfLosses.BAD, -1);
        is("NOT", LotteryOfLosses.NOT, -2);
        is("FULL", LotteryOfLosses.FULL, -3);
        is("STATE", LotteryOfLosses.STATE, -5);
        is("VOID", LotteryOfLosses.VOID, -2000000000);
    }

    /** Promises 2 to 5. */
    private static void ticketsAndLoves() {
        lots();
        is("2", x.ticket(-1, 0), -1);
        is("2", x.ticket(8, 0), -1);
        is("2", x.ticket(0, -2), -1);
        is("2", x.ticket(0, 6), -1);
        for (int i = 0; i < 12; i++) {
            is("2", x.ticket(i % 8, i % 7 - 1), i);
            is("2: thing", x.of(i, 1), i % 8);
            is("2: holder", x.of(i, 2), i % 7 - 1);
            is("2: blank", x.of(i, 3), 0);
            is("2: in", x.of(i, 10), 1);
        }
        is("2: full", x.ticket(0, 0), -3);
        is("2: bad ahead of full", x.ticket(8, 0), -1);
        is("2: count", x.count(0), 12);

        lots();
        is("3: missing", x.tickets(0, 0, 1), 0);
        is("3: missing", x.tickets(0, -1, 12), 0);
        is("3: shelf", x.tickets(6, 0, 1), -1);
        is("3: shelf", x.tickets(-1, 0, 1), -1);
        is("3: n", x.tickets(0, 0, 0), -1);
        is("3: n", x.tickets(0, 0, 13), -1);
        x.row(1, 1, 6);
        is("3: shorts", x.tickets(1, 0, 1), -12);
        x.row(1, 4, 6);
        is("3: booleans", x.tickets(1, 0, 1), -12);
        x.body(0);
        x.keep(2, 0);
        is("3: a loss", x.tickets(2, 0, 1), -12);
        is("3: bad ahead", x.tickets(2, 0, 13), -1);
        bytes(0, 3, 5, 7, -1, 2, 0, 9);
        is("3: within a two", x.tickets(0, 0, 4), 3);
        is("3: nobody's", x.of(1, 2), -1);
        is("3: thing", x.of(2, 1), 2);
        is("3: from a place on", x.tickets(0, 3, 2), 0);
        is("3: from a place on", x.tickets(0, 4, 2), 1);
        is("3: one at the end", x.tickets(0, 6, 1), 0);
        is("3: behind the end", x.tickets(0, 7, 1), 0);
        is("3: far behind", x.tickets(0, MOST, 1), 0);
        is("3: ahead of the row", x.tickets(0, -1, 1), 0);
        is("3: far ahead", x.tickets(0, LEAST, 12), 0);
        is("3: count", x.count(0), 4);
        bytes(3, 0, 0, 0, 6, 0, 0);
        is("3: one is not so", x.tickets(3, 0, 3), 1);
        x.row(4, 0, 60);
        is("3: full", x.tickets(4, 0, 12), 7);
        is("3: full", x.tickets(4, 0, 12), 0);
        x.row(5, 0, 0);
        is("3: an empty row", x.tickets(5, 0, 1), 0);

        lots(4, 2);
        is("4: loves", x.mend(57, 0, 99), 10);
        is("4: loves", x.mend(57, 0, 0), 99);
        is("4: loves", x.of(57, 0), 0);
        is("4: thing", x.mend(0, 1, 7), 4);
        is("4: holder", x.mend(0, 2, -1), 2);
        is("4: holder", x.mend(0, 2, 5), -1);
        is("4: blank", x.mend(0, 3, 1), 0);
        is("5: thing", x.of(0, 1), 7);
        is("5: holder", x.of(0, 2), 5);
        is("5: blank", x.of(0, 3), 1);
        int before = x.count(3);
        int[][] wrong = {{58, 0, 1}, {60, 0, 1}, {-1, 0, 1}, {8, 0, 1}, {0, 0, 100}, {0, 0, -1}, {1, 1, 0}, {-1, 1, 0}, {0, 1, 8},
            {0, 1, -1}, {0, 2, 6}, {0, 2, -2}, {0, 3, 2}, {0, 3, -1}, {0, 4, 0}, {0, 10, 1}, {0, -1, 0}, {LEAST, 0, 1}};
        for (int[] w : wrong) {
            is("4: " + w[0] + " " + w[1] + " " + w[2], x.mend(w[0], w[1], w[2]), -2000000000);
        }
        is("4: nothing changed", x.count(3), before);
        int[][] none = {{58, 0}, {60, 0}, {-1, 0}, {1, 1}, {1, 10}, {-1, 10}, {6, 11}, {-1, 11}, {0, 4}, {0, 9}, {0, 12}, {0, -1}};
        for (int[] w : none) {
            is("5: " + w[0] + " " + w[1], x.of(w[0], w[1]), -2000000000);
        }
    }

    /** Promises 6 to 8. */
    private static void lawAndLoss() {
        lots();
        is("6", x.feed(-1), -1);
        is("6", x.feed(256), -1);
        is("6", x.feed(0), 1);
        is("6", x.feed(255), 2);
        is("7: fault", x.law(), -100);
        is("7: empty then", x.count(2), 0);
        is("7: too early", x.law(), -100);
        for (int i = 1; i <= 120; i++) {
            is("6", x.feed('v'), i);
        }
        is("6: full", x.feed('v'), -3);
        is("6: bad ahead of full", x.feed(256), -1);
        is("7: fault", x.law(), -101);

        lots(0, 0, 1, 0, 0, 0, 2, 1, 3, -1);
        x.mend(0, 0, 3);
        is("8: none", x.loss(0, 0), 0);
        is("8", x.loss(0, 1), 3);
        is("8: others", x.loss(0, 8), 0);
        is("8: one thing is lost once", x.loss(0, 1 + 2 + 4), 13);
        is("8: nobody's", x.loss(0, 16), 0);
        is("8: one", x.loss(-1, 0), -2000000000);
        is("8: one", x.loss(6, 0), -2000000000);
        is("8: not there", x.loss(0, 32), -2000000000);
        is("8: below 0", x.loss(0, LEAST), -2000000000);
        is("7: n is as all were ahead", law("n*10"), 1);
        is("8: n", x.loss(0, 1 + 2), 60);
        is("7: g goes on", law("g*10+1"), 1);
        is("8: g", x.loss(0, 1 + 2), 12);
        is("8: g of lost things alone", x.loss(0, 1 + 2 + 4), 12);
        is("7: d goes on", law("d*10+1"), 1);
        is("8: d", x.loss(1, 1 + 2 + 4 + 8), 31);
        x.mend(0, 3, 1);
        is("8: a blank takes nothing", x.loss(0, 1), 0);
        is("8: but counts as drawn", x.loss(0, 1 + 2), 11);
        is("8: and leaves the thing to another", x.loss(0, 1 + 4), 11);
        is("7: without v", law("0-50*t"), 1);
        is("8: below 0, held", x.loss(0, 2), -50);
        is("8: below 0, held", x.loss(1, 8), -99);
        x.draw(0);
        is("8: one is out", x.loss(0, 31), -2000000000);
    }

    /** Promises 9 to 12. */
    private static void meansAndWorsts() {
        lots(0, 0, 1, 0, 0, 1);
        x.mend(0, 0, 30);
        x.mend(10, 0, 7);
        fraction("9", x.mean(0, 1, 0), x.mean(0, 1, 1), 40, 3);
        fraction("9", x.mean(0, 2, 0), x.mean(0, 2, 1), 80, 3);
        fraction("9", x.mean(0, 3, 0), x.mean(0, 3, 1), 40, 1);
        fraction("9: all", x.mean(-1, 1, 0), x.mean(-1, 1, 1), 47, 3);
        fraction("9: nothing", x.mean(5, 2, 0), x.mean(5, 2, 1), 0, 1);
        is("9: m", x.mean(0, 4, 0), NONE);
        is("9: m", x.mean(0, -1, 0), NONE);
        is("9: one", x.mean(6, 1, 0), NONE);
        is("9: one", x.mean(-2, 1, 0), NONE);
        is("9: part", x.mean(0, 1, 2), NONE);
        is("9: part", x.mean(0, 1, -1), NONE);
        law("d*v");
        fraction("9: d", x.mean(1, 2, 0), x.mean(1, 2, 1), 14, 3);
        law("0-v");
        fraction("9: below 0", x.mean(0, 2, 0), x.mean(0, 2, 1), -80, 3);
        law("v");

        is("10", x.worst(0, 1, 0), 30);
        is("10", x.worst(0, 1, 1), 1);
        is("10", x.worst(0, 1, 2), 0);
        is("10", x.worst(0, 1, 3), 4);
        is("10: of like ones the least", x.worst(2, 2, 1), 3);
        is("10: of like ones the least", x.worst(2, 2, 3), 3);
        is("10: all", x.worst(0, 3, 2), 40);
        is("10: none", x.worst(0, 0, 3), 0);
        is("10: one", x.worst(-1, 1, 0), -2000000000);
        is("10: one", x.worst(6, 1, 0), -2000000000);
        is("10: m", x.worst(0, 4, 0), -2000000000);
        is("10: what", x.worst(0, 1, 4), -2000000000);
        is("10: what", x.worst(0, 1, -1), -2000000000);
        law("0-v");
        is("10: below 0", x.worst(0, 2, 0), -10);
        is("10: below 0", x.worst(0, 2, 1), 6);
        is("10: below 0", x.worst(0, 2, 2), -40);
        law("v");

        fraction("11", x.more(0, 2000 + 999 + 10, 0), x.more(0, 2000 + 999 + 10, 1), 1, 3);
        fraction("11", x.more(0, 2000 + 999 + 9, 0), x.more(0, 2000 + 999 + 9, 1), 2, 3);
        fraction("11", x.more(0, 2000 + 998, 0), x.more(0, 2000 + 998, 1), 1, 1);
        fraction("11", x.more(0, 2000 + 1998, 0), x.more(0, 2000 + 1998, 1), 0, 1);
        fraction("11: the least x", x.more(0, 0, 0), x.more(0, 0, 1), 1, 1);
        is("11: x", x.more(0, 1999, 0), NONE);
        is("11: m", x.more(0, 8999, 0), NONE);
        is("11: mx", x.more(0, -1, 0), NONE);
        is("11: mx", x.more(0, LEAST, 0), NONE);
        is("11: mx", x.more(0, MOST, 0), NONE);
        is("11: one", x.more(-1, 999, 0), NONE);
        is("11: part", x.more(0, 999, 2), NONE);

        fraction("12", x.keeps(0, 1, 0), x.keeps(0, 1, 1), 2, 3);
        fraction("12: of another", x.keeps(11, 1, 0), x.keeps(11, 1, 1), 1, 1);
        fraction("12: all", x.keeps(1, 3, 0), x.keeps(1, 3, 1), 0, 1);
        is("12: thing", x.keeps(8, 1, 0), NONE);
        is("12: one", x.keeps(60, 1, 0), NONE);
        is("12: ot", x.keeps(-1, 1, 0), NONE);
        is("12: m", x.keeps(0, 4, 0), NONE);
        is("12: part", x.keeps(0, 1, 2), NONE);
        x.mend(0, 3, 1);
        fraction("12: a blank", x.keeps(0, 3, 0), x.keeps(0, 3, 1), 1, 1);
        x.mend(0, 3, 0);
        x.give(1, -1);
        x.give(2, -1);
        x.draw(0);
        x.draw(0);
        x.draw(0);
        fraction("12: lost in deed", x.keeps(0, 0, 0), x.keeps(0, 0, 1), 0, 1);
        x.year();
        x.ticket(0, 0);
        fraction("12: two of one", x.keeps(0, 2, 0), x.keeps(0, 2, 1), 1, 6);
    }

    /** Promises 13 to 16. */
    private static void plans() {
        lots(0, 0, 1, 0, 0, 1, 2, -1);
        x.mend(0, 0, 30);
        x.mend(10, 0, 7);
        fraction("13", x.rid(0, 1, 0), x.rid(0, 1, 1), 15, 2);
        fraction("13: nobody's", x.rid(3, 2, 0), x.rid(3, 2, 1), 0, 1);
        is("13: m", x.rid(0, 5, 0), NONE);
        is("13: ticket", x.rid(4, 1, 0), NONE);
        is("13: ticket", x.rid(-1, 1, 0), NONE);
        is("13: part", x.rid(0, 1, 2), NONE);
        law("v/n");
        fraction("13: n is less without it", x.rid(0, 4, 0), x.rid(0, 4, 1), 10, 1);
        law("9-n*4");
        fraction("13: below 0", x.rid(1, 4, 0), x.rid(1, 4, 1), -3, 1);
        law("v");
        is("13: it was only thought", x.of(0, 2), 0);

        is("14: who", x.given(0, 1, 2), 1);
        fraction("14", x.given(0, 1, 0), x.given(0, 1, 1), 6, 1);
        is("14: of like ones the least", x.given(3, 2, 2), 0);
        is("14: m", x.given(0, 5, 2), NONE);
        is("14: part", x.given(0, 1, 3), NONE);
        is("14: part", x.given(0, 1, -1), NONE);
        is("14: ticket", x.given(4, 1, 0), NONE);
        is("14: it was only thought", x.of(0, 2), 0);
        x.draw(3 << 8);
        int out = x.of(0, 10) == 0 ? 0 : x.of(1, 10) == 0 ? 1 : x.of(2, 10) == 0 ? 2 : 3;
        is("13: not in", x.rid(out, 1, 0), NONE);
        is("14: not in", x.given(out, 1, 2), NONE);

        lots(0, 0, 1, 1, 2, 2);
        is("15: nobody gains", x.swap(1), -2);
        x.mend(0, 0, 50);
        x.mend(11, 0, 50);
        is("15: both gain", x.swap(1), 1);
        x.mend(22, 0, 90);
        x.mend(20, 0, 1);
        x.mend(2, 0, 2);
        is("15: both together least", x.swap(1), 2);
        is("15: by no draw", x.swap(0), -2);
        is("15: m", x.swap(4), -1);
        is("15: m", x.swap(-1), -1);
        x.mend(0, 2, -1);
        is("15: somebody's alone", x.swap(1), 22);
        x.mend(21, 0, 51);
        x.mend(12, 0, 50);
        is("15: one less is enough", x.swap(1), 22);
        x.mend(12, 0, 51);
        is("15: neither more", x.swap(1), -2);
        is("15: it was only thought", x.of(1, 2), 1);

        lots(0, 0, 0, 0, 0, 1, 1, 1, 1, 1, 2, -1, 2, -1);
        x.mend(11, 0, 80);
        is("16", x.cancel(2), 64);
        is("16: of like ones the first", x.cancel(0), 1);
        is("16: more draws than are left", x.cancel(7), 64);
        is("16: m", x.cancel(8), -1);
        is("16: m", x.cancel(-1), -1);
        is("16: nothing is out", x.count(1), 7);
        lots(0, -1, 0, -1, 1, 0, 1, 1);
        is("16: none", x.cancel(2), -2);
    }

    /** Promises 17 and 18. */
    private static void fairness() {
        lots(0, 5, 1, 5, 2, 5);
        x.mend(0, 0, 30);
        fraction("17: one bears all", x.fairest(31, -2), x.fairest(31, -1), 50, 1);
        fraction("17", x.fairest(32, -2), x.fairest(32, -1), 20, 1);
        is("17: who", x.fairest(32, 0), 1);
        is("17: who", x.fairest(32, 1), 0);
        is("17: who", x.fairest(32, 2), 0);
        fraction("17: by one draw", x.fairest(13, -2), x.fairest(13, -1), 10, 3);
        is("17: first by holders", x.fairest(13, 0), 1);
        is("17: first by holders", x.fairest(13, 1), 0);
        is("17: first by holders", x.fairest(13, 2), 2);
        is("17: by no draw", x.fairest(3, 2), 0);
        is("17: p", x.fairest(10, -2), NONE);
        is("17: p", x.fairest(14, -2), NONE);
        is("17: m", x.fairest(41, -2), NONE);
        is("17: mp", x.fairest(-1, -2), NONE);
        is("17: mp", x.fairest(LEAST, -2), NONE);
        is("17: what", x.fairest(11, -3), NONE);
        is("17: what", x.fairest(11, 3), NONE);
        is("17: it was only thought", x.of(0, 2), 5);
        x.mend(1, 1, 0);
        x.mend(0, 2, 4);
        x.mend(1, 2, 4);
        x.cancels(1);
        is("17: not in", x.fairest(11, 0), -2);
        is("17: in", x.fairest(11, 2), 0);
        lots(0, 0, 0, 0, 1, 0, 2, 0, 3, 0, 4, 0, 5, 0);
        is("17: seven", x.fairest(12, -2), -5);
        is("17: bad ahead", x.fairest(14, -2), NONE);
        x.ticket(0, 0);
        x.ticket(0, 0);
        x.cancels(1);
        is("17: still seven", x.fairest(12, 0), -5);
        x.cancels(20 * 7 + 8);
        is("17: five", x.fairest(12, 0), -2);

        lots(0, 0, 1, 0, 2, 1, 3, 2);
        is("18: those who lose nothing", x.syndicate(0), 63);
        is("18: of like ones the least", x.syndicate(1), 7);
        x.mend(0, 0, 0);
        x.mend(1, 0, 2);
        x.mend(12, 0, 2);
        is("18: most people", x.syndicate(4), 56);
        is("18: m", x.syndicate(5), -1);
        is("18: m", x.syndicate(-1), -1);
        lots(0, 0, 0, 1, 0, 2, 0, 3, 0, 4, 0, 5);
        is("18: like ones share alike", x.syndicate(6), 63);
        is("18: like ones share alike", x.syndicate(1), 63);
        for (int k = 0; k < 6; k++) {
            x.mend(10 * k, 0, k * 19);
        }
        is("18: none", x.syndicate(6), -2);
        x.mend(40, 0, 95);
        is("18: two", x.syndicate(6), 48);
        is("18: by one draw all share the worst of each", x.syndicate(1), 62);
    }

    /** Promises 9 to 18 where one holds all twelve tickets and may lose all eight things, by each number of draws. */
    private static void allOfOne() {
        lots(0, 4, 1, 4, 2, 4, 3, 4, 4, 4, 5, 4, 6, 4, 7, 4, 0, 4, 1, 4, 2, 4, 3, 4);
        for (int m = 0; m <= 12; m++) {
            fraction("9: all of one", x.mean(4, m, 0), x.mean(4, m, 1), x.mean(-1, m, 0), x.mean(-1, m, 1));
            is("10: all of one", x.worst(4, m, 0), 10 * Math.min(m, 8));
            is("14: all of one", x.given(11, m, 2), m <= 1 ? 0 : 4);
            is("15: all of one", x.swap(m), -2);
            is("16: all of one", x.cancel(m), 8);
            is("17: all of one", x.fairest(10 * m + 1, -2), -5);
            is("18: all of one", x.syndicate(m), m == 0 ? 63 : 47);
        }
        fraction("9: all of one", x.mean(4, 12, 0), x.mean(4, 12, 1), 80, 1);
        fraction("9: all of one", x.mean(4, 1, 0), x.mean(4, 1, 1), 10, 1);
        fraction("9: all of one", x.mean(4, 2, 0), x.mean(4, 2, 1), 640, 33);
        fraction("9: all of one", x.mean(4, 11, 0), x.mean(4, 11, 1), 230, 3);
        fraction("13: all of one", x.rid(11, 12, 0), x.rid(11, 12, 1), 0, 1);
        fraction("13: all of one", x.rid(7, 12, 0), x.rid(7, 12, 1), 10, 1);

        // losses worked out for one thing, g and d must not be taken for those of another
        lots(7, 0, 6, 0, 5, 0, 4, 0, 3, 0, 2, 0, 1, 0, 0, 0, 1, 0, 0, 0, 7, 0, 7, 0);
        law("g*10+d");
        is("8: eight things", x.loss(0, 0xff), 11 * (1 + 2 + 3 + 4 + 5 + 6 + 7));
        for (int i = 0; i < 7; i++) {
            x.mend(i, 3, 1);
        }
        is("8: behind seven blanks", x.loss(0, 0x17f), 7);
        is("8: behind seven blanks", x.loss(0, 0x0ff), 7);
        x.mend(10, 3, 1);
        is("8: the last of twelve", x.loss(0, 0xfff), 7 + 18 + 31);
        for (int i = 7; i < 11; i++) {
            x.mend(i, 3, 1);
        }
        is("8: behind eleven blanks", x.loss(0, 0xfff), 11);
    }

    /** Promises 19 to 21. */
    private static void doubts() {
        lots(0, 0, 1, 0, 0, 1, 2, -1, 3, 1);
        fraction("19", x.forged(0, 1, 0), x.forged(0, 1, 1), 3, 5);
        fraction("19", x.forged(0, 2, 0), x.forged(0, 2, 1), 3, 10);
        fraction("19", x.forged(0, 4, 0), x.forged(0, 4, 1), 0, 1);
        fraction("19: none held", x.forged(5, 5, 0), x.forged(5, 5, 1), 1, 1);
        x.mend(0, 3, 1);
        fraction("19: no matter if blank", x.forged(0, 2, 0), x.forged(0, 2, 1), 3, 10);
        is("19: one", x.forged(-1, 1, 0), NONE);
        is("19: one", x.forged(6, 1, 0), NONE);
        is("19: m", x.forged(0, 6, 0), NONE);
        is("19: part", x.forged(0, 1, 2), NONE);

        is("20: less than one of one", x.doubt(0, 12), 1);
        is("20: less than 7 of 12", x.doubt(0, 7), 2);
        is("20: less than 8 of 12", x.doubt(0, 8), 1);
        is("20: less than 1 of 12", x.doubt(0, 1), 4);
        is("20: none held", x.doubt(3, 12), -2);
        is("20: one", x.doubt(6, 1), -1);
        is("20: one", x.doubt(-1, 1), -1);
        is("20: x", x.doubt(0, 0), -1);
        is("20: x", x.doubt(0, 13), -1);
        lots(0, 0, 1, 1);
        is("20: just a half is not less", x.doubt(0, 6), 2);
        is("20: a half is less than 7 of 12", x.doubt(0, 7), 1);

        lots(0, 0, 1, 0, 0, 1, 2, -1, 3, 1);
        fraction("21", x.odds(1, 2, 0), x.odds(1, 2, 1), 2, 5);
        fraction("21", x.odds(3, 2, 0), x.odds(3, 2, 1), 1, 10);
        fraction("21: none", x.odds(0, 2, 0), x.odds(0, 2, 1), 1, 1);
        fraction("21: too many", x.odds(7, 2, 0), x.odds(7, 2, 1), 0, 1);
        fraction("21: all", x.odds(31, 5, 0), x.odds(31, 5, 1), 1, 1);
        is("21: not there", x.odds(32, 1, 0), NONE);
        is("21: below 0", x.odds(-1, 1, 0), NONE);
        is("21: m", x.odds(1, 6, 0), NONE);
        is("21: part", x.odds(1, 1, 2), NONE);
    }

    /** Promises 22 and 23. */
    private static void toldAheadAndRings() {
        lots(0, 0, 1, 0, 2, 1, 3, -1);
        x.mend(0, 0, 30);
        x.mend(1, 0, 20);
        x.mend(40, 0, 77);
        is("22: ticket", x.ahead(0, 3, 0), 0);
        is("22: to whom it hurts most", x.ahead(0, 3, 1), 4);
        is("22: loss", x.ahead(0, 3, 2), 20);
        is("22: the other's, with its own", x.ahead(0, 5, 1), 4);
        x.mend(40, 0, 15);
        is("22: the other's, with its own", x.ahead(0, 5, 1), 1);
        is("22: least ticket", x.ahead(0, 8, 0), 0);
        is("22: least to whom", x.ahead(0, 8, 1), 1);
        is("22: to another", x.ahead(1, 4, 1), 0);
        is("22: no draw", x.ahead(0, 0, 2), 0);
        is("22: none held", x.ahead(2, 1, 0), -2);
        is("22: none held", x.ahead(2, 1, 2), -2);
        is("22: set", x.ahead(0, 16, 0), -2000000000);
        is("22: set", x.ahead(0, -1, 0), -2000000000);
        is("22: one", x.ahead(6, 1, 0), -2000000000);
        is("22: one", x.ahead(-1, 1, 0), -2000000000);
        is("22: what", x.ahead(0, 1, 3), -2000000000);
        is("22: what", x.ahead(2, 1, -1), -2000000000);
        is("22: it was only thought", x.of(0, 2), 0);

        lots(0, 0, 1, 1, 2, 2, 3, 3);
        is("23: nobody is loved less", x.ring(0, 0), 1);
        is("23: its own", x.ring(0, 1), 0);
        is("23: into another's", x.ring(1, 0), 0);
        is("23: into another's", x.ring(1, 1), -2);
        x.mend(1, 0, 0);
        x.mend(12, 0, 0);
        x.mend(20, 0, 0);
        x.mend(32, 0, 3);
        is("23: three", x.ring(0, 0), 3);
        is("23: three", x.ring(0, 1), 1);
        is("23: three", x.ring(1, 1), 2);
        is("23: three", x.ring(2, 1), 0);
        is("23: leads to a ring", x.ring(3, 0), 0);
        is("23: has none", x.ring(4, 0), 0);
        is("23: has none", x.ring(5, 1), -2);
        is("23: one", x.ring(6, 0), -1);
        is("23: one", x.ring(-1, 0), -1);
        is("23: what", x.ring(0, 2), -1);
        is("23: what", x.ring(0, -1), -1);
        lots(0, 0, 1, 0, 2, 1);
        x.mend(1, 0, 40);
        x.mend(2, 0, 1);
        is("23: wishes away the one it loves most", x.ring(1, 1), 0);
        x.mend(11, 0, 50);
        is("23: keeps its own", x.ring(1, 0), 1);
    }

    /** Promises 24 to 26. */
    private static void yearsSeen() {
        lots(0, 0, 1, 0, 0, 1, 0, 0);
        bytes(0, 0, 3, 1, 2);
        is("24: all were in", x.judge(0), -2);
        bytes(1, 0, 1, 0, 2);
        is("24: twice", x.judge(1), 2);
        bytes(2, 2, 4);
        is("24: none such", x.judge(2), 1);
        bytes(2, -1);
        is("24: none such", x.judge(2), 0);
        x.row(3, 0, 0);
        is("24: none seen", x.judge(3), -2);
        is("24: nothing there", x.judge(4), -11);
        x.row(4, 2, 1);
        is("24: ints", x.judge(4), -12);
        is("24: shelf", x.judge(6), -1);
        is("24: shelf", x.judge(-1), -1);

        is("25", x.lost(0, 0), 20);
        is("25", x.lost(0, 1), 10);
        is("25: till the first", x.lost(1, 1), 0);
        is("25: none seen", x.lost(3, 0), 0);
        is("25: one", x.lost(0, 6), -2000000000);
        is("25: one", x.lost(0, -1), -2000000000);
        is("25: no bytes", x.lost(4, 0), -2000000000);
        is("25: nothing", x.lost(5, 0), -2000000000);
        is("25: shelf", x.lost(6, 0), -2000000000);
        law("n");
        is("25: n anew", x.lost(0, 0), 3 + 1);
        law("d*10+g");
        is("25: d and g go on", x.lost(0, 0), 0 + 21);
        is("25: nothing is drawn", x.count(1), 4);
        law("v");

        is("26", x.whose(0, 20, 30), 0);
        is("26: nobody else's makes ten of it", x.whose(0, 21, 10), 2);
        is("26: all but one", x.whose(0, 21, 0), 61);
        is("26: where it is no matter", x.whose(3, 0, 0), 63);
        is("26: x", x.whose(0, 0, 1000), -1);
        is("26: x", x.whose(0, 0, -1000), -1);
        is("26: x", x.whose(0, 0, 999), 0);
        is("26: ticket", x.whose(0, 40, 0), -1);
        is("26: to", x.whose(0, -1, 0), -1);
        is("26: one", x.whose(0, 6, 0), -1);
        is("26: nothing there", x.whose(5, 0, 0), -11);
        is("26: no bytes", x.whose(4, 0, 0), -12);
        is("26: bad ahead", x.whose(5, 6, 0), -1);
        is("26: shelf", x.whose(6, 0, 0), -1);
        is("26: it was only thought", x.of(2, 2), 1);
    }

    private static int next(int z) {
        return z * 1103515245 + 12345;
    }

    /** Promise 27. */
    private static void yearsBySeeds() {
        lots(0, 0, 1, 1);
        x.mend(0, 0, 3);
        x.mend(11, 0, 5);
        int z = 77;
        int first = 0;
        int second = 0;
        for (int year = 0; year < 20; year++) {
            z = next(z);
            if ((z >>> 8) % 2 == 0) {
                first += 3;
            } else {
                second += 5;
            }
        }
        is("27", x.drawn(77, 2001, 0), first);
        is("27", x.drawn(77, 2001, 1), second);
        is("27: all", x.drawn(77, 2001, -1), first + second);
        is("27: all are drawn", x.drawn(-5, 1012, -1), 80);
        is("27: each from how it is now", x.drawn(9, 202, 0), 6);
        is("27: others", x.drawn(9, 202, 2), 0);
        is("27: n", x.drawn(1, 1, 0), -2000000000);
        is("27: n", x.drawn(1, 2101, 0), -2000000000);
        is("27: m", x.drawn(1, 100, 0), -2000000000);
        is("27: m", x.drawn(1, 113, 0), -2000000000);
        is("27: nm", x.drawn(1, -101, 0), -2000000000);
        is("27: one", x.drawn(1, 101, 6), -2000000000);
        is("27: one", x.drawn(1, 101, -2), -2000000000);
        is("27: nothing is drawn in deed", x.count(1), 2);
        law("d+1");
        is("27: single draws", x.drawn(4, 302, -1), 9);
    }

    /** Promises 28 to 32. */
    private static void deeds() {
        lots();
        is("28: nothing is in", x.draw(1), -2);
        lots(0, 0, 0, 0, 1, 1);
        int seed = 12345;
        int want = (next(seed) >>> 8) % 3;
        is("28", x.draw(seed), want);
        is("28: out", x.of(want, 10), 0);
        is("28: its holder stays", x.of(want, 2), want == 2 ? 1 : 0);
        is("32: drawn", x.led(0), 1);
        is("32: loss", x.led(want == 2 ? 11 : 10), 10);
        is("5: lost", x.of(want == 2 ? 1 : 0, 11), want == 2 ? 2 : 1);
        x.draw(seed);
        x.draw(seed);
        is("28: none is left", x.draw(seed), -2);
        is("32: a thing is lost once", x.led(10), 10);
        is("32", x.led(11), 10);
        is("32", x.led(0), 3);

        is("31", x.year(), 1);
        is("31: all are in", x.count(1), 3);
        is("31: nothing is lost", x.of(0, 11), 0);
        is("32: years", x.led(2), 1);
        is("32: losses stay", x.led(10), 10);
        law("d*10");
        is("31: none is drawn ahead", x.loss(1, 4), 0);
        x.draw(seed);
        int left = x.of(0, 10) == 1 ? 0 : 1;
        is("28: d", x.loss(0, 1 << left), x.of(0, 11) == 0 ? 10 : 0);

        lots(0, 0, 0, 0, 1, 1, 0, -1, 0, -1, 0, 1);
        is("29", x.give(0, 5), 0);
        is("29", x.give(0, -1), 5);
        is("29", x.give(0, 0), -1);
        is("29: ticket", x.give(6, 0), -2000000000);
        is("29: ticket", x.give(-1, 0), -2000000000);
        is("29: one", x.give(0, 6), -2000000000);
        is("29: one", x.give(0, -2), -2000000000);
        is("29: no change to undo", x.count(3), 0);

        is("30: of one holder alone", x.cancels(5), -5);
        is("30: of one thing alone", x.cancels(20 * 2 + 5), -5);
        is("30: somebody's alone", x.cancels(20 * 3 + 4), -5);
        is("30: the lesser first", x.cancels(20), -1);
        is("30: two", x.cancels(0), -1);
        is("30: two", x.cancels(21), -1);
        is("30: none such", x.cancels(6), -1);
        is("30: below 0", x.cancels(-1), -1);
        is("30: far", x.cancels(MOST), -1);
        is("30: far", x.cancels(LEAST), -1);
        is("30", x.cancels(1), 4);
        is("30: out", x.of(0, 10), 0);
        is("30: out", x.of(1, 10), 0);
        is("30: no more", x.cancels(1), -5);
        is("30: nothing is lost", x.of(0, 11), 0);
        is("32: cancelled", x.led(1), 2);
        is("32: drawn", x.led(0), 0);
        is("29: not in", x.give(0, 3), -5);
        is("29: void ahead", x.give(0, 6), -2000000000);
        law("d");
        is("30: cancelled is not drawn", x.loss(1, 4), 0);
        is("31", x.year(), 1);
        is("30: again", x.cancels(1), 4);
        is("32: both years", x.led(1), 4);
        is("31", x.year(), 2);
        for (int what : new int[] {-1, 3, 9, 16, LEAST, MOST}) {
            is("32: what", x.led(what), -2000000000);
        }
    }

    /** Promises 33 and 34. */
    private static void images() {
        lots(0, 0, 1, 0);
        is("34: none", x.back(), -5);
        x.year();
        is("33", x.image(), 1);
        x.draw(5);
        x.draw(5);
        x.year();
        x.draw(5);
        x.mend(0, 0, 77);
        x.mend(0, 3, 1);
        x.mend(1, 2, 4);
        is("2: one more", x.ticket(2, 3), 2);
        is("34", x.back(), 1);
        is("34: in", x.count(1), 3);
        is("34: lost", x.of(0, 11), 0);
        is("34: led", x.led(0), 0);
        is("34: led", x.led(10), 0);
        is("34: years", x.led(2), 1);
        is("34: holders", x.of(1, 2), 0);
        is("34: loves are none of it", x.of(0, 0), 77);
        is("34: blanks are none of it", x.of(0, 3), 1);
        is("34: changes are none of it", x.count(3), 3);
        x.give(2, 1);
        x.give(0, 5);
        law("d*10+1");
        x.draw(5);
        x.draw(5);
        x.draw(5);
        is("34: again", x.back(), 1);
        is("34: what came since stays", x.of(2, 2), 1);
        is("34: what came since stays out", x.of(2, 10), 0);
        is("34: the others are in", x.count(1), 2);
        is("34: d does not count it", x.loss(0, 2), 1);
        is("34: its loss is not led", x.led(11), 0);
        x.draw(5);
        is("33: anew", x.image(), 1);
        x.year();
        is("34: anew", x.back(), 1);
        is("34: one is out", x.count(1), 1);
        is("34: d", x.loss(5, x.of(0, 10) == 1 ? 1 : 2), 0);
    }

    /** Promises 35 and 36. */
    private static void changes() {
        lots(0, 0);
        is("35: none", x.undo(), -5);
        is("36: none", x.redo(), -5);
        x.mend(0, 0, 10);
        is("35: the same is none", x.undo(), -5);
        x.mend(0, 0, 11);
        x.mend(0, 1, 5);
        x.mend(0, 2, 3);
        x.mend(0, 3, 1);
        x.give(0, 4);
        is("46: changes", x.count(3), 4);
        is("35", x.undo(), 3);
        is("35: blank", x.of(0, 3), 0);
        is("35: a gift is none", x.of(0, 2), 4);
        is("35", x.undo(), 2);
        is("35: holder", x.of(0, 2), 0);
        is("35", x.undo(), 1);
        is("35: thing", x.of(0, 1), 0);
        is("36", x.redo(), 2);
        is("36: thing", x.of(0, 1), 5);
        is("35", x.undo(), 1);
        is("35", x.undo(), 0);
        is("35: loves", x.of(0, 0), 10);
        is("35: loves count", x.loss(0, 1), 10);
        is("35: no more", x.undo(), -5);
        is("36", x.redo(), 3);
        is("36: loves count", x.loss(0, 1), 11);
        x.mend(0, 0, 11);
        is("36: the same is none behind", x.redo(), 2);
        x.mend(0, 0, 12);
        is("36: another came behind", x.redo(), -5);
        is("35", x.undo(), 2);
        is("36", x.redo(), 0);
        lots();
        for (int i = 1; i <= 45; i++) {
            x.mend(0, 0, 10 + i);
        }
        is("35: 40 are kept", x.count(3), 40);
        for (int i = 39; i >= 0; i--) {
            is("35", x.undo(), i);
        }
        is("35: no more", x.undo(), -5);
        is("35: the oldest stay", x.of(0, 0), 15);
        for (int i = 39; i >= 0; i--) {
            is("36", x.redo(), i);
        }
        is("36: no more", x.redo(), -5);
        is("36", x.of(0, 0), 55);
    }

    private static void act(int body, int act, int with, int want, int... bodies) {
        is("38: act " + body + " " + act + " " + with, x.act(body, act, with), want);
        is("46: bodies that ran", x.count(5), bodies.length);
        for (int i = 0; i < bodies.length && i < 24; i++) {
            is("39: trace", x.trace(i), bodies[i]);
        }
        is("39: no more", x.trace(Math.min(24, bodies.length)), -1);
        is("39: below 0", x.trace(-1), -1);
    }

    /** Promises 37 to 39. */
    private static void acts() {
        lots();
        is("37: kind", x.body(-1), -1);
        is("37: kind", x.body(8), -1);
        for (int kind = 0; kind < 8; kind++) {
            is("37", x.body(kind), kind);
        }
        act(0, 0, 7, 7, 1);
        act(0, 1, 7, 14, 10, 1);
        act(0, 2, 7, 7, 11);
        act(0, 3, 7, 13, 2, 10, 1, 11);
        act(1, 0, 7, 11, 20, 1);
        act(1, 1, 7, 22, 10, 20, 1);
        act(2, 1, 7, -18, 30, 10, 1);
        act(3, 1, 7, -22, 41, 30, 10, 1);
        act(3, 2, 7, 12, 40, 11);
        act(3, 3, 7, -22 - 6, 2, 41, 30, 10, 1, 40, 11);
        act(4, 2, 7, (7 ^ 4) - 9, 50, 11, 20, 1);
        act(5, 3, 7, -26 - 12 ^ 5, 60, 2, 41, 30, 10, 1, 40, 11);
        act(6, 0, 7, 26, 70, 1);
        act(6, 1, 7, 52, 10, 70, 1);
        act(7, 1, 7, 34 + 5 - 12, 80, 10, 20, 1, 50, 11, 20, 1);
        act(7, 3, 7, 27 - (6 - 12) - 1, 81, 2, 80, 10, 20, 1, 50, 11, 20, 1, 50, 11, 20, 1);
        act(0, 1, MOST, -2, 10, 1);
        act(8, 0, 7, 0);
        act(7, 3, 0, x.act(7, 3, 0), 81, 2, 80, 10, 20, 1, 50, 11, 20, 1, 50, 11, 20, 1);
        act(-1, 0, 7, 0);
        act(0, 4, 7, 0);
        act(0, -1, 7, 0);
        for (int i = 8; i < 50; i++) {
            is("37", x.body(0), i);
        }
        is("37: full", x.body(0), -3);
        is("37: bad ahead of full", x.body(8), -1);
        is("46: bodies", x.count(4), 50);
    }

    /** Promises 40 to 46. */
    private static void shelves() {
        lots();
        x.body(5);
        is("40", x.keep(0, 0), 1);
        is("45", x.taken(0, 0), 5);
        is("40: nothing", x.keep(0, -1), 1);
        is("45: nothing there", x.taken(0, 0), -11);
        is("40: body", x.keep(0, 1), -1);
        is("40: body", x.keep(0, -2), -1);
        is("40: shelf", x.keep(6, 0), -1);
        is("40: shelf", x.keep(-1, 0), -1);
        is("41", x.row(5, 4, 60), 1);
        is("41: none", x.row(5, 0, 0), 1);
        is("41: size", x.row(0, 0, -1), -14);
        is("41: size", x.row(0, 0, 61), -1);
        is("41: sort", x.row(0, 5, 1), -1);
        is("41: sort ahead", x.row(0, -1, -1), -1);
        is("41: shelf ahead", x.row(6, 0, -1), -1);
        is("41: a refused row is none", x.taken(0, 0), -11);

        long v = 0x123456789abcdef7L;
        long[] kept = {(byte) v, (short) v, (int) v, v, 1};
        for (int sort = 0; sort < 5; sort++) {
            x.row(1, sort, 3);
            is("43: 0 at first", x.element(1, 1), 0);
            is("42", x.put(1, 1, v), 1);
            is("43", x.element(1, 1), kept[sort]);
            is("43: beside", x.element(1, 0), 0);
            is("42", x.put(1, 1, 256L << 32), 1);
            is("43: lowest bits", x.element(1, 1), sort == 3 ? 256L << 32 : sort == 4 ? 1 : 0);
            is("42", x.put(1, 2, Long.MIN_VALUE), 1);
            is("43", x.element(1, 2), sort == 3 ? Long.MIN_VALUE : sort == 4 ? 1 : 0);
            is("42", x.put(1, 2, 0), 1);
            is("43", x.element(1, 2), 0);
            is("42: place", x.put(1, 3, 1), -13);
            is("42: place", x.put(1, -1, 1), -13);
            is("43: place", x.element(1, 3), NONE);
            is("43: place", x.element(1, -1), NONE);
        }
        is("42: shelf", x.put(6, 0, 1), -1);
        is("42: shelf", x.put(-1, -1, 1), -1);
        is("42: nothing", x.put(2, 0, 1), -11);
        x.keep(2, 0);
        is("42: a loss", x.put(2, 0, 1), -12);
        is("43: a loss", x.element(2, 0), NONE);
        is("43: nothing", x.element(3, 0), NONE);
        is("43: shelf", x.element(6, 0), NONE);

        bytes(1, 1, 2, 3, 4, 5);
        is("44: the same, overlapping", x.shift(1, 0, 1, 1, 4), 4);
        for (int i = 0; i < 5; i++) {
            is("44: as they all were", x.element(1, i), i == 0 ? 1 : i);
        }
        bytes(4, 9, 9, 9);
        is("44: another", x.shift(1, 3, 4, 1, 2), 2);
        is("44", x.element(4, 0), 9);
        is("44", x.element(4, 1), 3);
        is("44", x.element(4, 2), 4);
        is("44: none", x.shift(1, 5, 4, 3, 0), 0);
        is("44: place", x.shift(1, 6, 4, 0, 0), -13);
        is("44: place", x.shift(1, 0, 4, 4, 0), -13);
        is("44: place", x.shift(1, -1, 4, 0, 1), -13);
        is("44: place", x.shift(1, 0, 4, -1, 1), -13);
        is("44: too many", x.shift(1, 4, 4, 0, 2), -13);
        is("44: too many", x.shift(1, 0, 4, 2, 2), -13);
        is("44: below 0", x.shift(1, 0, 4, 0, -1), -13);
        is("44: far", x.shift(1, MOST, 4, 0, MOST), -13);
        is("44: nothing there", x.shift(1, 0, 3, 0, 1), -11);
        is("44: nothing there", x.shift(3, 0, 2, 0, 1), -11);
        is("44: no row", x.shift(2, 0, 1, 0, 1), -12);
        is("44: no row", x.shift(1, 0, 2, -1, 1), -12);
        x.row(3, 1, 5);
        is("44: of unlike sorts", x.shift(1, 9, 3, 0, 1), -12);
        is("44: shelf", x.shift(6, 0, 1, 0, 1), -1);
        is("44: shelf", x.shift(1, 0, -1, 0, 1), -1);

        int[] above = {0, 0, 0, 2, 1, 3, 0, 4};
        lots();
        for (int kind = 0; kind < 8; kind++) {
            x.keep(0, x.body(kind));
            for (int k = 0; k < 8; k++) {
                int up = kind;
                while (up != k && up != 0) {
                    up = above[up];
                }
                is("45: " + kind + " for " + k, x.taken(0, k), up == k ? kind : -12);
            }
        }
        x.row(1, 0, 1);
        is("45: a row", x.taken(1, 0), -12);
        is("45: kind", x.taken(0, 8), -1);
        is("45: kind", x.taken(0, -1), -1);
        is("45: shelf", x.taken(6, 0), -1);
        is("45: bad ahead", x.taken(2, 8), -1);

        lots(0, 0, 0, 0, 1, 1);
        x.cancels(1);
        x.feed('v');
        x.feed('v');
        is("46: tickets", x.count(0), 3);
        is("46: in", x.count(1), 1);
        is("46: tape", x.count(2), 2);
        is("46", x.count(6), -1);
        is("46", x.count(-1), -1);
    }
}
