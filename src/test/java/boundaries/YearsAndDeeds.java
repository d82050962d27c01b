/** Part 4 of the document's terms: years by a seed, deeds, changes, the image. */
final class YearsAndDeeds extends Boundaries {
    private YearsAndDeeds() {
    }

    static void run() {
        drawn();
        deeds();
        changes();
        image();
    }

    /** The losses of all by the law d*t+1, where ticket i has thing and holder i, and more were drawn ahead. */
    private static int lossByYears(int seed, int years, int draws, int tickets, int ahead) {
        int z = seed;
        int loss = 0;
        for (int year = 0; year < years; year++) {
            boolean[] out = new boolean[tickets];
            for (int m = 0; m < Math.min(draws, tickets); m++) {
                z = next(z);
                int rank = (z >>> 8) % (tickets - m);
                int i = 0;
                while (out[i] || rank > 0) {
                    rank -= out[i] ? 0 : 1;
                    i++;
                }
                out[i] = true;
                loss += (ahead + m) * i + 1;
            }
        }
        return loss;
    }

    private static void drawn() {
        test("DRAWN: n years (1 .. 20), each from how it is now, of m single DRAWS (1 .. 12) by a SEED: z = z * 1103515245 + 12345 (an int; SEED at first) ahead of each (none, if nothing is IN): the TICKET that is the ((z >>> 8) % how many are IN)-th by numbers (0 on): LOSS of one in all (0 on), of all (-1).", () -> {
            lots(0, 0, 1, 1, 2, 2, 3, 3, 4, 4, 5, 5);
            law("d*t+1");
            for (int seed : new int[] {0, 1, -1, 5, 255, 256, 1 << 24, -(1 << 24), MOST, LEAST}) {
                is("one year, one draw, " + seed, x.drawn(seed, 101, -1), lossByYears(seed, 1, 1, 6, 0));
                is("20 years, 4 draws, " + seed, x.drawn(seed, 2004, -1), lossByYears(seed, 20, 4, 6, 0));
                is("20 years, more draws than are IN, " + seed, x.drawn(seed, 2012, -1), lossByYears(seed, 20, 12, 6, 0));
                int each = 0;
                for (int one = 0; one < 6; one++) {
                    each += x.drawn(seed, 505, one);
                }
                is("of each, " + seed, each, lossByYears(seed, 5, 5, 6, 0));
            }
            for (int nm : new int[] {0, 1, 12, 99, 100, 113, 199, 2000, 2013, 2101, 2112, -1, -101, MOST, LEAST}) {
                is("years and draws " + nm, x.drawn(1, nm, -1), VOID);
            }
            is("it is in thought", x.count(1), 6);
            is("it is in thought", x.led(0), 0);
            draw(5);
            is("each from how it is now", x.drawn(7, 2003, -1), lossByYears(7, 20, 3, 5, 1));
            is("one that lost it ahead", x.drawn(7, 2005, 5), 0);
            for (int i = 0; i < 5; i++) {
                draw(i);
            }
            is("nothing is IN", x.drawn(7, 2012, -1), 0);
            lots();
            is("no ticket", x.drawn(7, 2012, -1), 0);
        });
        test("IN DEED: DRAW by a SEED of its own: the TICKET;", () -> {
            for (int seed : new int[] {0, 1, -1, 3, 12345, 1 << 24, -(1 << 24), MOST, LEAST}) {
                lots(0, 0, 1, 1, 2, 2, 3, 3, 4, 4);
                int first = (next(seed) >>> 8) % 5;
                is("the first by " + seed, x.draw(seed), first);
                int second = (next(seed) >>> 8) % 4;
                is("the second by " + seed, x.draw(seed), second + (second >= first ? 1 : 0));
            }
            lots(0, 0);
            is("the only one", x.draw(-77), 0);
            is("nothing is IN", x.draw(-77), NOT);
            lots();
            is("no ticket", x.draw(0), NOT);
        });
    }

    private static void deeds() {
        test("GIVE a TICKET to one (-1: nobody): who had it;", () -> {
            lots(0, 0, 1, -1);
            is("to the last", x.give(0, 5), 0);
            is("to nobody", x.give(0, -1), 5);
            is("to nobody again", x.give(0, -1), -1);
            is("to the first", x.give(1, 0), -1);
            is("to the same", x.give(1, 0), 0);
            is("holder", x.of(1, 2), 0);
            is("to one below nobody", x.give(1, -2), VOID);
            is("to one too many", x.give(1, 6), VOID);
            is("no such ticket", x.give(2, 0), VOID);
            draw(1);
            is("not IN", x.give(1, 3), STATE);
            is("holder", x.of(1, 2), 0);
        });
        test("CANCEL two of one THING, one HOLDER;", () -> {
            lots(0, 0, 0, 0, 0, 1, 1, 0, 0, -1, 0, -1, 0, 0);
            is("of two holders", x.cancels(2), STATE);
            is("of two things", x.cancels(3), STATE);
            is("nobody's and somebody's", x.cancels(4), STATE);
            is("nobody's", x.cancels(20 * 4 + 5), STATE);
            is("just such", x.cancels(1), 5);
            is("one is not IN", x.cancels(6), STATE);
            is("both are not IN", x.cancels(1), STATE);
            is("nothing is lost", x.of(0, 11), 0);
            is("nothing is lost", x.led(10), 0);
        });
        test("a NEW YEAR: all are IN again, nothing is lost.", () -> {
            lots(0, 0, 0, 0, 1, 5, 2, -1);
            x.cancels(1);
            draw(2);
            draw(3);
            is("none is IN", x.count(1), 0);
            is("lost", x.of(5, 11), 2);
            x.year();
            is("all are IN", x.count(1), 4);
            is("all are IN", x.loss(0, 15), 10);
            is("nothing is lost", x.of(5, 11), 0);
            is("nothing is lost", x.loss(5, 4), 10);
            law("d+50");
            is("none was drawn this year", x.loss(5, 4), 50);
            x.year();
            is("all are IN", x.count(1), 4);
            lots();
            is("no ticket", x.year(), 1);
            is("no ticket", x.count(1), 0);
            lots(0, 0, 0, 0, 0, 0, 0, 0, 0, 0, 0, 0, 0, 0, 0, 0, 0, 0, 0, 0, 0, 0, 0, 0);
            x.draw(1);
            x.year();
            is("all twelve", x.loss(0, 0xfff), 10);
        });
        test("LED: drawn ones, cancelled ones, years, LOSS of one (0 on).", () -> {
            lots(0, 0, 0, 0, 1, 5, 2, -1);
            for (int what : new int[] {0, 1, 2, 10, 11, 12, 13, 14, 15}) {
                is("nothing yet " + what, x.led(what), 0);
            }
            draw(3);
            draw(2);
            x.cancels(1);
            x.year();
            draw(2);
            is("drawn ones", x.led(0), 3);
            is("cancelled ones", x.led(1), 2);
            is("years", x.led(2), 1);
            is("loss of the first", x.led(10), 0);
            is("loss of the last", x.led(15), 20);
            law("-v");
            draw(0);
            is("below 0", x.led(10), -10);
            for (int what : new int[] {-1, 3, 9, 16, MOST, LEAST}) {
                is("no such " + what, x.led(what), VOID);
            }
        });
    }

    private static void changes() {
        test("CHANGES (LOVES, THING, HOLDER, BLANK by mend(); telling the same number is none)", () -> {
            lots(3, 2);
            is("the same love", x.mend(0, 0, 10), 10);
            is("the same thing", x.mend(0, 1, 3), 3);
            is("the same holder", x.mend(0, 2, 2), 2);
            is("the same blank", x.mend(0, 3, 0), 0);
            is("none", x.count(3), 0);
            is("none", x.undo(), STATE);
            x.mend(0, 0, 11);
            is("a love", x.count(3), 1);
            x.mend(0, 1, 4);
            is("a thing", x.count(3), 2);
            x.mend(0, 2, -1);
            is("a holder", x.count(3), 3);
            x.mend(0, 3, 1);
            is("a blank", x.count(3), 4);
            x.mend(0, 3, 1);
            x.mend(0, 0, 11);
            is("the same", x.count(3), 4);
            x.mend(0, 0, 100);
            x.mend(1, 1, 1);
            is("a refused one", x.count(3), 4);
        });
        test("can be UNDONE, the latest first, and DONE AGAIN (as long as no other came behind);", () -> {
            lots(3, 2);
            is("none", x.undo(), STATE);
            is("none", x.redo(), STATE);
            x.mend(57, 0, 0);
            x.mend(0, 1, 7);
            x.mend(0, 2, -1);
            x.mend(0, 3, 1);
            is("none was undone", x.redo(), STATE);
            is("the latest first", x.undo(), 3);
            is("blank", x.of(0, 3), 0);
            is("holder not yet", x.of(0, 2), -1);
            is("then", x.undo(), 2);
            is("holder", x.of(0, 2), 2);
            is("then", x.undo(), 1);
            is("thing", x.of(0, 1), 3);
            is("the last", x.undo(), 0);
            is("love", x.of(57, 0), 10);
            is("no more", x.undo(), STATE);
            is("again", x.redo(), 3);
            is("love", x.of(57, 0), 0);
            is("again", x.redo(), 2);
            is("thing", x.of(0, 1), 7);
            is("the same number is none", x.mend(0, 1, 7), 7);
            is("a refused one is none", x.mend(0, 1, 8), VOID);
            is("a gift is none", x.give(0, 4), 2);
            is("again", x.redo(), 1);
            is("holder", x.of(0, 2), -1);
            is("one came behind", x.mend(0, 1, 6), 7);
            is("no more", x.redo(), STATE);
            is("blank stays", x.of(0, 3), 0);
            is("changes", x.count(3), 4);
            is("undone", x.undo(), 3);
            is("again", x.redo(), 0);
            is("thing", x.of(0, 1), 6);
            is("no more", x.redo(), STATE);
        });
        test("40 at most are kept;", () -> {
            lots();
            for (int i = 1; i <= 39; i++) {
                x.mend(0, 0, 10 + i);
            }
            is("39", x.count(3), 39);
            x.mend(0, 0, 50);
            is("40", x.count(3), 40);
            x.mend(0, 0, 51);
            is("41", x.count(3), 40);
            x.mend(0, 0, 52);
            for (int i = 39; i >= 0; i--) {
                is("undone", x.undo(), i);
            }
            is("no more", x.undo(), STATE);
            is("as the two oldest left it", x.of(0, 0), 12);
            for (int i = 39; i >= 0; i--) {
                is("again", x.redo(), i);
            }
            is("no more", x.redo(), STATE);
            is("as it was", x.of(0, 0), 52);
            x.undo();
            x.mend(0, 0, 90);
            is("one in place of the undone", x.count(3), 40);
            x.undo();
            is("the one ahead", x.of(0, 0), 51);
            keptInOrder();
        });
        test("deeds (GIVE, too) are none.", () -> {
            lots(0, 0, 0, 0, 1, 1);
            x.mend(2, 2, 4);
            x.undo();
            x.give(2, 3);
            draw(2);
            x.cancels(1);
            x.year();
            x.image();
            x.back();
            is("changes", x.count(3), 0);
            is("no deed is undone", x.undo(), STATE);
            is("no deed comes behind", x.redo(), 0);
            is("holder", x.of(2, 2), 4);
        });
    }

    /** 42 changes of all sorts, the latest 40 of them undone and done again, one by one. */
    private static void keptInOrder() {
        lots(0, 0, 1, 1, 2, 2);
        int[] numbers = new int[42];
        int[] whats = new int[42];
        int[] before = new int[42];
        for (int i = 0; i < 42; i++) {
            whats[i] = i % 4;
            numbers[i] = whats[i] == 0 ? i % 5 * 10 + i % 8 : i / 4 % 3;
            before[i] = x.of(numbers[i], whats[i]);
            int v = whats[i] == 0 ? 40 + i : whats[i] == 3 ? 1 - before[i] : (before[i] + 1) % 6;
            is("mend", x.mend(numbers[i], whats[i], v), before[i]);
        }
        int[] after = new int[42];
        for (int i = 41; i >= 2; i--) {
            after[i] = x.of(numbers[i], whats[i]);
            is("undone", x.undo(), i - 2);
            is("change " + i + " is undone", x.of(numbers[i], whats[i]), before[i]);
        }
        for (int i = 2; i < 42; i++) {
            is("again", x.redo(), 41 - i);
            is("change " + i + " is done again", x.of(numbers[i], whats[i]), after[i]);
        }
    }

    private static void image() {
        test("AN IMAGE keeps what is IN, HOLDERS, what was lost, what LED tells.", () -> {
            lots(0, 0, 0, 0, 1, 5, 2, -1);
            x.year();
            draw(2);
            x.image();
            x.mend(0, 2, 3);
            x.mend(1, 2, 3);
            x.cancels(1);
            x.give(3, 5);
            draw(3);
            x.year();
            x.year();
            draw(0);
            is("laid back", x.back(), 1);
            is("drawn is drawn", x.of(2, 10), 0);
            is("IN is IN", x.count(1), 3);
            is("holder", x.of(0, 2), 0);
            is("holder", x.of(1, 2), 0);
            is("nobody", x.of(3, 2), -1);
            is("lost", x.of(5, 11), 2);
            is("not lost", x.of(3, 11), 0);
            is("drawn", x.led(0), 1);
            is("cancelled", x.led(1), 0);
            is("years", x.led(2), 1);
            is("loss", x.led(15), 10);
            is("loss", x.led(13), 0);
            x.mend(1, 3, 1);
            x.mend(1, 1, 6);
            x.mend(0, 0, 99);
            is("laid back", x.back(), 1);
            is("BLANK is none of it", x.of(1, 3), 1);
            is("THING is none of it", x.of(1, 1), 6);
            is("LOVES are none of it", x.of(0, 0), 99);
        });
    }
}
