/** Promises 19 to 36, each by the sentences under its heading. */
final class DoubtsAndDeedsPromised extends Boundaries {
    private DoubtsAndDeedsPromised() {
    }

    static void run() {
        doubts();
        ringsAndYears();
        deeds();
        images();
        changes();
    }

    private static void doubts() {
        test("`long forged(int one, int m, int part)`: FORGED.", () -> {
            lots(0, 0, 1, 5);
            is("of the last, by all", x.forged(5, 2, 0), 0);
            is("of the first, by none", x.forged(0, 0, 0), 1);
            for (int one : new int[] {-1, 6, MOST, LEAST}) {
                is("of " + one, x.forged(one, 1, 0), NONE);
            }
            for (int m : new int[] {-1, 3, MOST, LEAST}) {
                is("by " + m, x.forged(0, m, 0), NONE);
            }
            is("part 2", x.forged(0, 1, 2), NONE);
            is("part -1", x.forged(0, 1, -1), NONE);
        });
        test("`int doubt(int one, int x)`: DOUBT. BAD; NOT.", () -> {
            lots(0, 0, 1, 5);
            is("just 6 of 12", x.doubt(0, 6), 2);
            is("less than 7 of 12", x.doubt(5, 7), 1);
            is("NOT", x.doubt(1, 1), NOT);
            for (int one : new int[] {-1, 6, MOST, LEAST}) {
                is("of " + one, x.doubt(one, 1), BAD);
            }
            for (int of : new int[] {-1, 0, 13, MOST, LEAST}) {
                is("x " + of, x.doubt(0, of), BAD);
                is("x " + of + ", ahead of NOT", x.doubt(1, of), BAD);
            }
        });
        test("`long odds(int set, int m, int part)`: ODDS of a set.", () -> {
            lots(0, 0, 1, 5);
            is("of none", x.odds(0, 0, 0), 1);
            is("of all, by all", x.odds(3, 2, 0), 1);
            is("of more than are drawn", x.odds(3, 1, 0), 0);
            is("of no such ticket", x.odds(4, 1, 0), NONE);
            is("of one such and one not", x.odds(5, 1, 0), NONE);
            is("below 0", x.odds(-1, 1, 0), NONE);
            is("far", x.odds(MOST, 1, 0), NONE);
            for (int m : new int[] {-1, 3, MOST, LEAST}) {
                is("by " + m, x.odds(1, m, 0), NONE);
            }
            is("part 2", x.odds(1, 1, 2), NONE);
        });
        test("`int ahead(int one, int set, int what)`: TOLD AHEAD: the TICKET (what 0), to whom (1), its LOSS then (2). VOID: BAD; NOT.", () -> {
            lots(0, 5, 1, 5);
            is("the ticket", x.ahead(5, 2, 0), 1);
            is("to whom", x.ahead(5, 2, 1), 0);
            is("its loss", x.ahead(5, 3, 2), 10);
            for (int what : new int[] {-1, 3, MOST, LEAST}) {
                is("what " + what, x.ahead(5, 1, what), VOID);
                is("what " + what + ", ahead of NOT", x.ahead(0, 1, what), VOID);
            }
            for (int one : new int[] {-1, 6, MOST, LEAST}) {
                is("of " + one, x.ahead(one, 1, 0), VOID);
            }
            for (int set : new int[] {4, 7, -1, MOST, LEAST}) {
                is("by " + set, x.ahead(5, set, 0), VOID);
                is("by " + set + ", ahead of NOT", x.ahead(0, set, 0), VOID);
            }
            is("who holds none", x.ahead(0, 3, 0), NOT);
            is("who holds none", x.ahead(0, 3, 2), NOT);
        });
    }

    private static void ringsAndYears() {
        test("`int ring(int one, int what)`: RING: how many (what 0), whose TICKET (1; NOT). BAD.", () -> {
            lots(0, 5);
            is("how many", x.ring(5, 0), 1);
            is("whose", x.ring(5, 1), 5);
            is("none", x.ring(0, 0), 0);
            is("whose", x.ring(0, 1), NOT);
            for (int one : new int[] {-1, 6, MOST, LEAST}) {
                is("of " + one, x.ring(one, 0), BAD);
                is("of " + one, x.ring(one, 1), BAD);
            }
            for (int what : new int[] {-1, 2, MOST, LEAST}) {
                is("what " + what, x.ring(5, what), BAD);
                is("what " + what, x.ring(0, what), BAD);
            }
        });
        test("`int judge(int shelf)`: JUDGED. BAD, -11, -12 (no ROW of bytes); NOT.", () -> {
            lots(0, 5);
            x.body(0);
            is("nothing", x.judge(0), NOTHING_THERE);
            x.keep(0, 0);
            is("a loss", x.judge(0), OTHER_KIND);
            for (int sort = 1; sort < 5; sort++) {
                x.row(0, sort, 1);
                is("sort " + sort, x.judge(0), OTHER_KIND);
            }
            bytes(0, 0);
            is("all were IN", x.judge(0), NOT);
            bytes(0, 1);
            is("the first", x.judge(0), 0);
            for (int shelf : new int[] {-1, 6, MOST, LEAST}) {
                is("shelf " + shelf, x.judge(shelf), BAD);
            }
        });
        test("`int lost(int shelf, int one)`: LOST. VOID: BAD, or no ROW of bytes.", () -> {
            lots(0, 5);
            x.body(0);
            is("nothing", x.lost(0, 5), VOID);
            x.keep(0, 0);
            is("a loss", x.lost(0, 5), VOID);
            for (int sort = 1; sort < 5; sort++) {
                x.row(0, sort, 1);
                is("sort " + sort, x.lost(0, 5), VOID);
            }
            bytes(0, 0);
            is("lost", x.lost(0, 5), 10);
            for (int one : new int[] {-1, 6, MOST, LEAST}) {
                is("of " + one, x.lost(0, one), VOID);
            }
            for (int shelf : new int[] {-1, 6, MOST, LEAST}) {
                is("shelf " + shelf, x.lost(shelf, 5), VOID);
            }
        });
        test("`int whose(int shelf, int to, int x)`: WHOSE (to: 10 times the TICKET, and the one whose LOSS is told; x). BAD, -11, -12.", () -> {
            lots(0, 5, 1, 0);
            x.body(0);
            is("nothing", x.whose(0, 15, 0), NOTHING_THERE);
            x.keep(0, 0);
            is("a loss", x.whose(0, 15, 0), OTHER_KIND);
            for (int sort = 1; sort < 5; sort++) {
                x.row(0, sort, 1);
                is("sort " + sort, x.whose(0, 15, 0), OTHER_KIND);
            }
            bytes(0, 0, 1);
            is("with its own", x.whose(0, 15, 20), 32);
            is("without it", x.whose(0, 15, 10), 31);
            for (int to : new int[] {-1, -10, 6, 9, 16, 19, 20, 25, 120, MOST, LEAST}) {
                is("to " + to, x.whose(0, to, 0), BAD);
                is("to " + to + ", ahead of -11", x.whose(1, to, 0), BAD);
            }
            for (int loss : new int[] {-1000, 1000, MOST, LEAST}) {
                is("x " + loss, x.whose(0, 15, loss), BAD);
            }
            is("x 999", x.whose(0, 15, 999), 0);
            is("x -999", x.whose(0, 15, -999), 0);
            for (int shelf : new int[] {-1, 6, MOST, LEAST}) {
                is("shelf " + shelf, x.whose(shelf, 15, 0), BAD);
            }
        });
        test("`int drawn(int seed, int nm, int one)`: DRAWN (nm: 100 n and m). VOID: BAD.", () -> {
            lots(0, 5, 1, 0);
            is("one year, one draw", x.drawn(0, 101, -1), 10);
            is("one year, twelve draws", x.drawn(0, 112, -1), 20);
            is("twenty years, one draw", x.drawn(0, 2001, -1), 200);
            is("twenty years, twelve draws", x.drawn(0, 2012, 5), 200);
            for (int nm : new int[] {-1, 0, 1, 12, 100, 113, 200, 2000, 2013, 2101, MOST, LEAST}) {
                is("nm " + nm, x.drawn(0, nm, 0), VOID);
            }
            for (int one : new int[] {-2, 6, MOST, LEAST}) {
                is("of " + one, x.drawn(0, 101, one), VOID);
            }
        });
    }

    private static void deeds() {
        test("`int draw(int seed)`: DRAW: the TICKET. NOT: nothing is IN.", () -> {
            lots();
            is("no ticket", x.draw(0), NOT);
            lots(0, 0, 0, 0);
            x.cancels(1);
            is("cancelled", x.draw(0), NOT);
            is("nothing is led", x.led(0), 0);
            x.year();
            is("one of two", x.draw(0), (next(0) >>> 8) % 2);
            is("the other", x.draw(0), 1 - (next(0) >>> 8) % 2);
            is("none", x.draw(0), NOT);
            is("led", x.led(0), 2);
        });
        test("`int give(int ticket, int one)`: GIVE: who had it. VOID: BAD. STATE: it is not IN.", () -> {
            lots(0, 0);
            is("to the last", x.give(0, 5), 0);
            is("to nobody", x.give(0, -1), 5);
            for (int one : new int[] {-2, 6, MOST, LEAST}) {
                is("to " + one, x.give(0, one), VOID);
            }
            for (int ticket : new int[] {-1, 1, 12, 32, MOST, LEAST}) {
                is("ticket " + ticket, x.give(ticket, 0), VOID);
            }
            draw(0);
            is("not IN", x.give(0, 0), STATE);
            is("BAD ahead of it", x.give(0, 6), VOID);
            is("holder", x.of(0, 2), -1);
        });
        test("`int cancels(int ab)`: CANCEL two (ab: 20 times the lesser and the other): how many are IN then. BAD; STATE: they are not such.", () -> {
            lots(0, 0, 0, 0, 0, 1, 1, 0);
            for (int ab : new int[] {-1, -20, -19, 0, 20, 21, 40, 4, 24, 63, 64, 80, 12, 19, 239, 252, MOST, LEAST}) {
                is("ab " + ab, x.cancels(ab), BAD);
            }
            is("of two holders", x.cancels(2), STATE);
            is("of two things", x.cancels(3), STATE);
            is("how many are IN", x.cancels(1), 2);
            is("not IN", x.cancels(1), STATE);
            lots(0, -1, 0, -1);
            is("nobody's", x.cancels(1), STATE);
            lots(0, 0, 0, 0, 0, 0, 0, 0, 0, 0, 0, 0, 0, 0, 0, 0, 0, 0, 0, 0, 0, 0, 0, 0);
            is("the last two of twelve", x.cancels(20 * 10 + 11), 10);
            is("the first and one that is out", x.cancels(11), STATE);
        });
        test("`int year()`: A NEW YEAR: how many there were.", () -> {
            lots();
            is("the first", x.year(), 1);
            is("the second", x.year(), 2);
            is("led", x.led(2), 2);
        });
        test("`int led(int what)`: LED: drawn (what 0), cancelled (1), years (2), LOSS of one (10 and its number). VOID: BAD.", () -> {
            lots(0, 5, 1, 5, 1, 5);
            draw(0);
            x.cancels(20 * 1 + 2);
            x.year();
            is("drawn", x.led(0), 1);
            is("cancelled", x.led(1), 2);
            is("years", x.led(2), 1);
            is("loss of the first", x.led(10), 0);
            is("loss of the last", x.led(15), 10);
            for (int what : new int[] {-1, 3, 4, 9, 16, 20, MOST, LEAST}) {
                is("what " + what, x.led(what), VOID);
            }
        });
    }

    private static void images() {
        test("`int image()`: AN IMAGE is kept: years.", () -> {
            lots(0, 0);
            is("none yet", x.image(), 0);
            x.year();
            is("one", x.image(), 1);
            x.year();
            is("the latest is kept", x.back(), 1);
        });
        test("`int back()`: It is laid back (TICKETS that came since stay as they are; d is laid back, they do not count in it): years. STATE: there is none.", () -> {
            lots(0, 0, 1, 1);
            is("none", x.back(), STATE);
            law("d*10");
            draw(0);
            x.image();
            x.ticket(2, 2);
            x.ticket(3, 3);
            draw(2);
            x.give(3, 4);
            draw(1);
            is("years", x.back(), 0);
            is("one that came since stays out", x.of(2, 10), 0);
            is("one that came since stays IN", x.of(3, 10), 1);
            is("one that came since stays with its holder", x.of(3, 2), 4);
            is("one that was there is IN", x.of(1, 10), 1);
            is("d is laid back", x.loss(1, 2), 10);
            is("what came since was not lost", x.of(2, 11), 0);
            is("led", x.led(0), 1);
            x.year();
            x.year();
            x.ticket(4, 4);
            is("years", x.back(), 0);
            is("what came since stays IN", x.count(1), 4);
            is("d is laid back", x.loss(4, 16), 10);
            lots();
            x.image();
            x.ticket(0, 0);
            draw(0);
            x.back();
            is("an image of no ticket", x.of(0, 10), 0);
            is("an image of no ticket", x.of(0, 11), 0);
            is("an image of no ticket", x.year(), 1);
            lots(0, 0, 1, 1, 2, 2, 3, 3, 4, 4, 5, 5, 6, 0, 7, 1, 0, 2, 1, 3, 2, 4, 3, 5);
            draw(11);
            x.image();
            draw(0);
            x.give(10, 0);
            x.back();
            is("an image of twelve", x.count(1), 11);
            is("an image of twelve", x.of(11, 10), 0);
            is("an image of twelve", x.of(10, 2), 4);
        });
    }

    private static void changes() {
        test("`int undo()`: UNDONE: how many may still be. STATE: none.", () -> {
            lots();
            is("none", x.undo(), STATE);
            x.mend(0, 0, 1);
            x.mend(0, 0, 2);
            is("one may still be", x.undo(), 1);
            is("none may still be", x.undo(), 0);
            is("none", x.undo(), STATE);
            is("love", x.of(0, 0), 10);
        });
        test("`int redo()`: DONE AGAIN: how many may still be. STATE: none.", () -> {
            lots();
            is("none", x.redo(), STATE);
            x.mend(0, 0, 1);
            x.mend(0, 0, 2);
            is("none", x.redo(), STATE);
            x.undo();
            x.undo();
            is("one may still be", x.redo(), 1);
            is("none may still be", x.redo(), 0);
            is("none", x.redo(), STATE);
            is("love", x.of(0, 0), 2);
        });
    }
}
