/** Promises 1 to 18, each by the sentences under its heading. */
final class TicketsAndThoughtsPromised extends Boundaries {
    private TicketsAndThoughtsPromised() {
    }

    static void run() {
        parts();
        tickets();
        law();
        thoughts();
        plans();
    }

    private static void parts() {
        test("(part 0 above, 1 below the line; Long.MIN_VALUE: BAD).", () -> {
            lots(0, 0, 1, 1, 2, 2);
            fraction("mean()", x.mean(0, 1, 0), x.mean(0, 1, 1), 10, 3);
            fraction("more()", x.more(0, 2999, 0), x.more(0, 2999, 1), 1, 3);
            fraction("keeps()", x.keeps(0, 1, 0), x.keeps(0, 1, 1), 2, 3);
            fraction("rid()", x.rid(0, 1, 0), x.rid(0, 1, 1), 10, 3);
            fraction("given()", x.given(0, 1, 0), x.given(0, 1, 1), 10, 1);
            fraction("forged()", x.forged(0, 2, 0), x.forged(0, 2, 1), 1, 3);
            fraction("odds()", x.odds(1, 1, 0), x.odds(1, 1, 1), 1, 3);
            for (int part : new int[] {-1, 2, 3, MOST, LEAST}) {
                is("mean() " + part, x.mean(0, 1, part), Long.MIN_VALUE);
                is("mean() of all " + part, x.mean(-1, 1, part), Long.MIN_VALUE);
                is("more() " + part, x.more(0, 2999, part), Long.MIN_VALUE);
                is("keeps() " + part, x.keeps(0, 1, part), Long.MIN_VALUE);
                is("rid() " + part, x.rid(0, 1, part), Long.MIN_VALUE);
                is("forged() " + part, x.forged(0, 2, part), Long.MIN_VALUE);
                is("odds() " + part, x.odds(1, 1, part), Long.MIN_VALUE);
                if (part != 2) {
                    is("given() " + part, x.given(0, 1, part), Long.MIN_VALUE);
                }
            }
        });
        test("`LotteryOfLosses()`: No tickets, six people.", () -> {
            lots();
            is("tickets", x.count(0), 0);
            is("tickets", x.of(0, 1), VOID);
            is("tickets", x.loss(0, 1), VOID);
            is("tickets", x.mean(0, 1, 0), NONE);
            is("six people", x.of(5, 11), 0);
            is("six people", x.of(6, 11), VOID);
            is("six people", x.syndicate(0), 63);
        });
    }

    private static void tickets() {
        test("`int ticket(int thing, int holder)`: A TICKET (holder -1: nobody's): its number. BAD, FULL: 12.", () -> {
            lots();
            is("thing below 0", x.ticket(-1, 0), BAD);
            is("thing 8", x.ticket(8, 0), BAD);
            is("holder -2", x.ticket(0, -2), BAD);
            is("holder 6", x.ticket(0, 6), BAD);
            is("nobody's", x.ticket(7, -1), 0);
            is("nobody's", x.of(0, 2), -1);
            for (int i = 1; i < 12; i++) {
                is("its number", x.ticket(0, 5), i);
            }
            is("full", x.ticket(0, 5), FULL);
            draw(11);
            is("full, though one is out", x.ticket(0, 5), FULL);
            is("tickets", x.count(0), 12);
        });
        test("`int tickets(int shelf, int i, int n)`: TICKETS FROM A ROW on a SHELF, from place i on, n (1 .. 12) of them: how many came. BAD, -12 (no ROW of bytes; a SHELF that holds nothing is missing).", () -> {
            lots();
            x.body(0);
            x.keep(1, 0);
            for (int sort = 1; sort < 5; sort++) {
                x.row(2, sort, 4);
                is("sort " + sort, x.tickets(2, 0, 1), OTHER_KIND);
                is("sort " + sort, x.tickets(2, 9, 1), OTHER_KIND);
            }
            is("a loss", x.tickets(1, 0, 1), OTHER_KIND);
            is("nothing", x.tickets(3, 0, 1), 0);
            bytes(0, 1, 1, 2, 2);
            for (int n : new int[] {0, -1, 13, MOST, LEAST}) {
                is("n " + n, x.tickets(0, 0, n), BAD);
                is("n " + n + " of nothing", x.tickets(3, 0, n), BAD);
            }
            is("shelf -1", x.tickets(-1, 0, 1), BAD);
            is("shelf 6", x.tickets(6, 0, 1), BAD);
            is("one", x.tickets(0, 2, 1), 1);
            is("of twelve", x.tickets(0, 0, 12), 2);
            is("tickets", x.count(0), 3);
        });
        test("`int mend(int number, int what, int v)`: LOVES (what 0; number 10 times the one and the THING), THING (1), HOLDER (2), BLANK (3) of a TICKET becomes v: what it was. VOID: BAD.", () -> {
            lots(3, 2);
            is("the first love", x.mend(0, 0, 0), 10);
            is("the last love", x.mend(57, 0, 99), 10);
            is("what it was", x.mend(57, 0, 98), 99);
            is("thing", x.mend(0, 1, 7), 3);
            is("holder", x.mend(0, 2, -1), 2);
            is("blank", x.mend(0, 3, 1), 0);
            is("what it was", x.mend(0, 3, 1), 1);
            for (int what : new int[] {-1, 4, 10, 11, MOST, LEAST}) {
                is("what " + what, x.mend(0, what, 0), VOID);
            }
            for (int number : new int[] {-1, 8, 9, 18, 58, 59, 60, MOST, LEAST}) {
                is("love " + number, x.mend(number, 0, 1), VOID);
            }
            for (int number : new int[] {-1, 1, MOST, LEAST}) {
                is("thing of " + number, x.mend(number, 1, 1), VOID);
                is("holder of " + number, x.mend(number, 2, 1), VOID);
                is("blank of " + number, x.mend(number, 3, 1), VOID);
            }
            is("love below 0", x.mend(0, 0, -1), VOID);
            is("love 100", x.mend(0, 0, 100), VOID);
            is("thing below 0", x.mend(0, 1, -1), VOID);
            is("thing 8", x.mend(0, 1, 8), VOID);
            is("holder -2", x.mend(0, 2, -2), VOID);
            is("holder 6", x.mend(0, 2, 6), VOID);
            is("blank below 0", x.mend(0, 3, -1), VOID);
            is("blank 2", x.mend(0, 3, 2), VOID);
            draw(0);
            is("not IN", x.mend(0, 2, 4), -1);
            is("not IN", x.of(0, 2), 4);
        });
        test("`int of(int number, int what)`: As of mend() (0 to 3); of a TICKET 10 whether it is IN; of one 11 which THINGS it has lost in deed (bits). VOID: BAD.", () -> {
            lots(7, 5, 0, 5);
            is("the last love", x.of(57, 0), 10);
            is("thing", x.of(0, 1), 7);
            is("holder", x.of(0, 2), 5);
            is("blank", x.of(0, 3), 0);
            is("IN", x.of(0, 10), 1);
            is("none lost", x.of(5, 11), 0);
            draw(0);
            is("not IN", x.of(0, 10), 0);
            is("the last thing", x.of(5, 11), 128);
            draw(1);
            is("two", x.of(5, 11), 129);
            is("of another", x.of(0, 11), 0);
            for (int what : new int[] {-1, 4, 5, 9, 12, MOST, LEAST}) {
                is("what " + what, x.of(0, what), VOID);
            }
            for (int number : new int[] {-1, 2, MOST, LEAST}) {
                is("thing of " + number, x.of(number, 1), VOID);
                is("holder of " + number, x.of(number, 2), VOID);
                is("blank of " + number, x.of(number, 3), VOID);
                is("IN of " + number, x.of(number, 10), VOID);
            }
            for (int number : new int[] {-1, 8, 58, 60, MOST, LEAST}) {
                is("love " + number, x.of(number, 0), VOID);
            }
            for (int one : new int[] {-1, 6, MOST, LEAST}) {
                is("lost by " + one, x.of(one, 11), VOID);
            }
        });
    }

    private static void law() {
        test("`int feed(int letter)`: A byte (0 .. 255) comes to THE TAPE: how many it has. BAD, FULL (120).", () -> {
            lots();
            for (int letter : new int[] {-1, 256, MOST, LEAST}) {
                is("byte " + letter, x.feed(letter), BAD);
            }
            is("byte 0", x.feed(0), 1);
            is("byte 255", x.feed(255), 2);
            for (int i = 3; i <= 120; i++) {
                is("how many", x.feed('v'), i);
            }
            is("full", x.feed('v'), FULL);
            is("full", x.feed(0), FULL);
            is("how many", x.count(2), 120);
            is("law()", x.law(), -100);
            is("room again", x.feed('v'), 1);
        });
        test("`int law()`: THE TAPE becomes THE LAW: 1; -100 less its FAULT; THE TAPE is empty then.", () -> {
            lots(0, 0);
            is("no byte", x.law(), -100);
            is("empty", x.count(2), 0);
            x.feed('7');
            is("a law", x.law(), 1);
            is("empty", x.count(2), 0);
            is("loss", x.loss(0, 1), 7);
            is("no byte", x.law(), -100);
            is("the law stays", x.loss(0, 1), 7);
            x.feed('8');
            x.feed('8');
            x.feed('+');
            is("a fault", x.law(), -103);
            is("empty", x.count(2), 0);
            is("the law stays", x.loss(0, 1), 7);
            x.feed('9');
            is("a law", x.law(), 1);
            is("loss", x.loss(0, 1), 9);
            law("0?7");
            fault("8;9+", 4);
            is("no line of a fault counts", x.loss(0, 1), 0);
            fault("v+".repeat(60), 120);
            is("the law stays", x.loss(0, 1), 0);
        });
        test("`int loss(int one, int set)`: One's LOSS, if a set of TICKETS (bits, all IN) is drawn now. VOID: BAD.", () -> {
            lots(0, 0, 1, 0, 2, 5);
            is("none", x.loss(0, 0), 0);
            is("all", x.loss(0, 7), 20);
            is("of the last", x.loss(5, 7), 10);
            is("one -1", x.loss(-1, 0), VOID);
            is("one 6", x.loss(6, 0), VOID);
            is("no such ticket", x.loss(0, 8), VOID);
            is("one of four", x.loss(0, 15), VOID);
            is("below 0", x.loss(0, -1), VOID);
            is("far", x.loss(0, LEAST), VOID);
            is("far", x.loss(0, MOST), VOID);
            draw(1);
            is("not IN", x.loss(0, 2), VOID);
            is("one is not IN", x.loss(0, 7), VOID);
            is("all that are IN", x.loss(0, 5), 10);
        });
    }

    private static void thoughts() {
        test("`long mean(int one, int m, int part)`: MEAN of one (0 .. 5), of all (-1).", () -> {
            lots(0, 0, 1, 5);
            is("of the first", x.mean(0, 2, 0), 10);
            is("of the last", x.mean(5, 2, 0), 10);
            is("of all", x.mean(-1, 2, 0), 20);
            for (int one : new int[] {-2, 6, MOST, LEAST}) {
                is("of " + one, x.mean(one, 2, 0), NONE);
            }
            is("by three", x.mean(-1, 3, 0), NONE);
            is("by -1", x.mean(-1, -1, 0), NONE);
        });
        test("`int worst(int one, int m, int what)`: WORST: LOSS (what 0), set (1); BEST: LOSS (2), set (3). VOID: BAD.", () -> {
            lots(0, 0, 1, 0, 2, 5);
            x.mend(1, 0, 20);
            is("worst loss", x.worst(0, 1, 0), 20);
            is("worst set", x.worst(0, 1, 1), 2);
            is("best loss", x.worst(0, 2, 2), 10);
            is("best set", x.worst(0, 2, 3), 5);
            for (int what : new int[] {-1, 4, 5, MOST, LEAST}) {
                is("what " + what, x.worst(0, 1, what), VOID);
            }
            for (int one : new int[] {-1, 6, MOST, LEAST}) {
                is("of " + one, x.worst(one, 1, 0), VOID);
            }
            for (int m : new int[] {-1, 4, MOST, LEAST}) {
                is("by " + m, x.worst(0, m, 3), VOID);
            }
        });
        test("`long more(int one, int mx, int part)`: MORE (mx: 2000 m, and x and 999).", () -> {
            lots(0, 0, 1, 0);
            is("by none, x -999", x.more(0, 0, 0), 1);
            is("by none, x -1", x.more(0, 998, 0), 1);
            is("by none, x 0", x.more(0, 999, 0), 0);
            is("by none, x 999", x.more(0, 1998, 0), 0);
            is("by none, x 1000", x.more(0, 1999, 0), NONE);
            is("by one, x -999", x.more(0, 2000, 0), 1);
            is("by one, x 9", x.more(0, 3008, 0), 1);
            is("by one, x 10", x.more(0, 3009, 0), 0);
            is("by one, x 1000", x.more(0, 3999, 0), NONE);
            is("by two, x 19", x.more(0, 5018, 0), 1);
            is("by two, x 20", x.more(0, 5019, 0), 0);
            is("by two, x 999", x.more(0, 5998, 0), 0);
            is("by three", x.more(0, 6000, 0), NONE);
            is("below 0", x.more(0, -1, 0), NONE);
            is("below 0", x.more(0, -2000, 0), NONE);
            is("far", x.more(0, LEAST, 0), NONE);
            is("far", x.more(0, MOST, 0), NONE);
        });
        test("`long keeps(int ot, int m, int part)`: KEEPS (ot: 10 times the one, and the THING).", () -> {
            lots(7, 5);
            is("the last", x.keeps(57, 1, 0), 0);
            is("the first", x.keeps(0, 1, 0), 1);
            for (int ot : new int[] {-1, -10, 8, 9, 18, 58, 59, 60, 67, 570, MOST, LEAST}) {
                is("of " + ot, x.keeps(ot, 1, 0), NONE);
            }
            is("by two", x.keeps(57, 2, 0), NONE);
            is("by -1", x.keeps(57, -1, 0), NONE);
        });
        test("`long rid(int ticket, int m, int part)`: RID. Also BAD: it is not IN.", () -> {
            lots(0, 0, 1, 0);
            is("IN", x.rid(1, 2, 0), 10);
            draw(1);
            is("not IN", x.rid(1, 1, 0), NONE);
            is("not IN, by none", x.rid(1, 0, 0), NONE);
            for (int ticket : new int[] {-1, 2, 32, MOST, LEAST}) {
                is("ticket " + ticket, x.rid(ticket, 0, 0), NONE);
            }
            is("by two", x.rid(0, 2, 0), NONE);
            x.cancels(1);
            x.year();
            x.mend(1, 1, 0);
            x.cancels(1);
            is("cancelled", x.rid(0, 0, 0), NONE);
        });
        test("`long given(int ticket, int m, int part)`: GIVEN: MEAN of all then (part 0, 1), to whom (2). Also BAD: it is not IN.", () -> {
            lots(0, 0, 1, 0);
            x.mend(30, 0, 3);
            is("above", x.given(0, 1, 0), 13);
            is("below", x.given(0, 1, 1), 2);
            is("to whom", x.given(0, 1, 2), 3);
            for (int part : new int[] {-1, 3, 4, MOST, LEAST}) {
                is("part " + part, x.given(0, 1, part), NONE);
            }
            for (int ticket : new int[] {-1, 2, 32, MOST, LEAST}) {
                is("ticket " + ticket, x.given(ticket, 0, 2), NONE);
            }
            is("by three", x.given(0, 3, 2), NONE);
            draw(1);
            is("not IN", x.given(1, 0, 2), NONE);
            is("by two", x.given(0, 2, 2), NONE);
        });
    }

    private static void plans() {
        test("`int swap(int m)`: SWAP. BAD; NOT.", () -> {
            lots(0, 0, 1, 1);
            loves(0, 20, 10);
            is("just such", x.swap(1), 1);
            is("as many as are IN", x.swap(2), 1);
            is("none drawn", x.swap(0), NOT);
            for (int m : new int[] {-1, 3, MOST, LEAST}) {
                is("by " + m, x.swap(m), BAD);
            }
        });
        test("`int cancel(int m)`: CANCEL. BAD; NOT.", () -> {
            lots(0, 0, 0, 0, 1, 1);
            is("just such", x.cancel(1), 1);
            is("as many as are IN", x.cancel(3), 1);
            is("none drawn", x.cancel(0), 1);
            for (int m : new int[] {-1, 4, MOST, LEAST}) {
                is("by " + m, x.cancel(m), BAD);
            }
            x.give(1, 1);
            is("none such", x.cancel(1), NOT);
        });
        test("`long fairest(int mp, int what)`: FAIREST (mp: 10 m, and p): MEAN (what -2 above, -1 below the line), the HOLDER of a TICKET (what 0 on). STATE (ahead of NOT); NOT.", () -> {
            lots(0, 0, 1, 0, 2, 0, 3, 0, 4, 0, 5, 0, 6, 0, 7, 0);
            is("seven and one more", x.fairest(81, -2), STATE);
            draw(7);
            is("STATE ahead of NOT", x.fairest(71, 7), STATE);
            is("STATE", x.fairest(71, 0), STATE);
            draw(6);
            is("NOT", x.fairest(61, 7), NOT);
            is("NOT", x.fairest(61, 6), NOT);
            is("the last that is IN", x.fairest(63, 5), 2);
            is("no such ticket", x.fairest(61, 8), NONE);
            is("far", x.fairest(61, MOST), NONE);
            is("what -3", x.fairest(61, -3), NONE);
            is("far", x.fairest(61, LEAST), NONE);
            is("above", x.fairest(13, -2), 10);
            is("below", x.fairest(13, -1), 3);
            for (int mp : new int[] {-1, 0, 4, 9, 10, 14, 60, 64, 70, 71, 73, MOST, LEAST}) {
                is("mp " + mp, x.fairest(mp, -2), NONE);
            }
        });
        test("`int syndicate(int m)`: SYNDICATE. BAD; NOT.", () -> {
            lots(0, 0, 1, 1);
            for (int m : new int[] {-1, 3, MOST, LEAST}) {
                is("by " + m, x.syndicate(m), BAD);
            }
            is("all", x.syndicate(0), 63);
            is("as many as are IN", x.syndicate(2), 60);
            law("(k+1)*10");
            lots(0, 0, 1, 1, 2, 2, 3, 3, 4, 4, 5, 5);
            law("(k+1)*10");
            is("none", x.syndicate(6), NOT);
        });
    }
}
