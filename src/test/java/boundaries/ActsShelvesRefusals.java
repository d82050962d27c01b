/** Part 5 of the document's terms: bodies, acts, shelves; and the answers that refuse. */
final class ActsShelvesRefusals extends Boundaries {
    private static final int[] ABOVE = {0, 0, 0, 2, 1, 3, 0, 4};

    private ActsShelvesRefusals() {
    }

    static void run() {
        bodies();
        traces();
        shelves();
        refusals();
        ticketsFromRows();
        answers();
    }

    /** A new object with a body of each kind, numbered as its kind. */
    private static void kinds() {
        x = new LotteryOfLosses();
        for (int kind = 0; kind < 8; kind++) {
            is("body", x.body(kind), kind);
        }
    }

    private static void act(int body, int act, int with, int want, int... trace) {
        String call = "act " + body + " " + act + " " + with;
        is(call, x.act(body, act, with), want);
        is(call + " ran", x.count(5), trace.length);
        for (int i = 0; i < trace.length; i++) {
            is(call + " trace " + i, x.trace(i), trace[i]);
        }
        is(call + " trace's end", x.trace(trace.length), BAD);
    }

    private static void bodies() {
        test("LOSSES' ways are kept by call as BODIES 0 .. 49, of KINDS: 0 LOSS; 1 HAT under LOSS; 2 DAY under LOSS; 3 OPINION under DAY; 4 RIVER under HAT; 5 GRIEF under OPINION; 6 BLANK under LOSS; 7 GRAND under RIVER.", () -> {
            x = new LotteryOfLosses();
            is("none", x.act(0, 0, 1), 0);
            is("none", x.keep(0, 0), BAD);
            for (int i = 0; i < 50; i++) {
                is("body", x.body(i % 8), i);
            }
            is("a 51st", x.body(0), FULL);
            is("the last takes", x.act(49, 0, 1), 53);
            is("none such", x.act(50, 0, 1), 0);
            is("none such", x.keep(0, 50), BAD);
            is("the last", x.keep(0, 49), 1);
            for (int kind : new int[] {-1, 8, MOST, LEAST}) {
                is("kind " + kind, x.body(kind), BAD);
                is("kind " + kind, x.taken(0, kind), BAD);
            }
            for (int kind = 0; kind < 8; kind++) {
                x.keep(0, kind);
                for (int k = 0; k < 8; k++) {
                    int up = kind;
                    while (up != k && up != 0) {
                        up = ABOVE[up];
                    }
                    is(kind + " for " + k, x.taken(0, k), up == k ? kind : OTHER_KIND);
                }
            }
        });
        test("ACTS with x (an int that wraps): 0 takes, 1 grieves, 2 keeps, 3 tells; n its number.", () -> {
            kinds();
            act(0, 0, MOST, MOST, 1);
            act(6, 0, MOST, (MOST + 6) * 2, 70, 1);
            act(1, 0, MOST, LEAST + 3, 20, 1);
            act(0, 1, MOST, -2, 10, 1);
            act(0, 1, LEAST, 0, 10, 1);
            act(2, 1, LEAST + 1, -((LEAST + 3) * 2), 30, 10, 1);
            act(3, 1, MOST, -((LEAST + 3) * 2), 41, 30, 10, 1);
            act(3, 2, MOST, (MOST ^ 3) * 3, 40, 11);
            act(4, 2, LEAST, (LEAST ^ 4) - 9, 50, 11, 20, 1);
            act(0, 3, LEAST, -1, 2, 10, 1, 11);
            for (int no : new int[] {-1, 4, MOST, LEAST}) {
                act(0, no, 1, 0);
            }
            for (int no : new int[] {-1, 8, MOST, LEAST}) {
                act(no, 0, 1, 0);
            }
            for (int i = 8; i < 50; i++) {
                x.body(0);
            }
            act(49, 2, 7, 7 ^ 49, 11);
            act(49, 0, -49, 0, 1);
        });
        test("BODIES of acts: TAKES (an interface of LOSS): 1 takes: x + n.", () -> {
            kinds();
            x.body(0);
            act(0, 0, 7, 7, 1);
            act(0, 0, MOST, MOST, 1);
            act(8, 0, 7, 15, 1);
            act(8, 0, MOST, LEAST + 7, 1);
        });
        test("LOSS: 10 grieves: takes(x) * 2.", () -> {
            kinds();
            act(0, 1, 7, 14, 10, 1);
            act(0, 1, MOST, -2, 10, 1);
            x.body(0);
            act(8, 1, 7, 30, 10, 1);
        });
        test("11 keeps: x ^ n.", () -> {
            kinds();
            act(0, 2, 7, 7, 11);
            x.body(0);
            act(8, 2, 12, 4, 11);
            act(8, 2, -1, -9, 11);
        });
        test("TELLS (of LOSS): 2 tells: grieves(x) - keeps(1).", () -> {
            kinds();
            act(0, 3, 7, 13, 2, 10, 1, 11);
            act(0, 3, LEAST, -1, 2, 10, 1, 11);
            x.body(0);
            act(8, 3, 7, 21, 2, 10, 1, 11);
        });
        ownBodies();
        test("takes(..) and so on: the body of its own KIND, or of the next KIND above that has one; super: from the KIND above the body's on.", () -> {
            kinds();
            act(1, 1, 7, 22, 10, 20, 1);
            act(1, 2, 7, 6, 11);
            act(1, 3, 7, 22, 2, 10, 20, 1, 11);
            act(2, 0, 7, 9, 1);
            act(2, 3, 7, -18 - 3, 2, 30, 10, 1, 11);
            act(3, 0, 7, 10, 1);
            act(3, 3, 7, -22 - 6, 2, 41, 30, 10, 1, 40, 11);
            act(4, 0, 7, 14, 20, 1);
            act(4, 1, 7, 28, 10, 20, 1);
            act(5, 0, 7, 12, 1);
            act(5, 1, 7, -26, 41, 30, 10, 1);
            act(5, 2, 7, 6, 40, 11);
            act(6, 1, 7, 52, 10, 70, 1);
            act(6, 2, 7, 1, 11);
            act(6, 3, 7, 52 - 7, 2, 10, 70, 1, 11);
            act(7, 0, 7, 17, 20, 1);
            act(7, 2, 7, -12, 50, 11, 20, 1);
        });
    }

    private static void ownBodies() {
        test("HAT: 20 takes: super.takes(x) + 3.", () -> {
            kinds();
            act(1, 0, 7, 11, 20, 1);
            act(1, 0, MOST, LEAST + 3, 20, 1);
        });
        test("DAY: 30 grieves: -super.grieves(x).", () -> {
            kinds();
            act(2, 1, 7, -18, 30, 10, 1);
            act(2, 1, -2, 0, 30, 10, 1);
        });
        test("OPINION: 40 keeps: super.keeps(x) * 3.", () -> {
            kinds();
            act(3, 2, 7, 12, 40, 11);
            act(3, 2, MOST, (MOST ^ 3) * 3, 40, 11);
        });
        test("41 grieves: super.grieves(x + 1).", () -> {
            kinds();
            act(3, 1, 7, -22, 41, 30, 10, 1);
            act(3, 1, MOST, -((LEAST + 3) * 2), 41, 30, 10, 1);
        });
        test("RIVER: 50 keeps: super.keeps(x) - takes(2).", () -> {
            kinds();
            act(4, 2, 7, 3 - 9, 50, 11, 20, 1);
            act(4, 2, LEAST, (LEAST ^ 4) - 9, 50, 11, 20, 1);
        });
        test("GRIEF: 60 tells: super.tells(x) ^ 5.", () -> {
            kinds();
            act(5, 3, 7, (-26 - 12) ^ 5, 60, 2, 41, 30, 10, 1, 40, 11);
            act(5, 3, 9, (-30 - 12) ^ 5, 60, 2, 41, 30, 10, 1, 40, 11);
        });
        test("BLANK: 70 takes: super.takes(x) * 2.", () -> {
            kinds();
            act(6, 0, 7, 26, 70, 1);
            act(6, 0, MOST, (MOST + 6) * 2, 70, 1);
        });
        test("GRAND: 80 grieves: super.grieves(x) + keeps(2).", () -> {
            kinds();
            act(7, 1, 7, 34 + (5 - 12), 80, 10, 20, 1, 50, 11, 20, 1);
        });
        test("81 tells: super.tells(x) - 1.", () -> {
            kinds();
            act(7, 3, 7, 27 - (6 - 12) - 1, 81, 2, 80, 10, 20, 1, 50, 11, 20, 1, 50, 11, 20, 1);
        });
    }

    private static void traces() {
        test("THE TRACE: numbers of the bodies that ran in the latest act(), as they began; the first 24 are kept.", () -> {
            kinds();
            is("no act yet", x.trace(0), BAD);
            is("no act yet", x.count(5), 0);
            act(7, 3, 0, x.act(7, 3, 0), 81, 2, 80, 10, 20, 1, 50, 11, 20, 1, 50, 11, 20, 1);
            for (int i : new int[] {-1, 14, 23, 24, 25, MOST, LEAST}) {
                is("the " + i + "-th", x.trace(i), BAD);
            }
            act(0, 0, 0, 0, 1);
            is("the latest alone", x.trace(1), BAD);
            act(0, 4, 0, 0);
            act(7, 0, 0, 10, 20, 1);
            act(8, 0, 0, 0);
        });
    }

    private static void shelves() {
        test("SHELVES 0 .. 5 each hold nothing (at first), a LOSS (a BODY), or a ROW:", () -> {
            kinds();
            for (int shelf = 0; shelf < 6; shelf++) {
                is("nothing at first", x.taken(shelf, 0), NOTHING_THERE);
                is("nothing at first", x.put(shelf, 0, 1), NOTHING_THERE);
            }
            is("a loss on the last", x.keep(5, 7), 1);
            is("a loss on the last", x.taken(5, 7), 7);
            is("others hold nothing", x.taken(4, 7), NOTHING_THERE);
            is("a row in its place", x.row(5, 0, 1), 1);
            is("a row in its place", x.taken(5, 7), OTHER_KIND);
            is("a loss in the row's place", x.keep(5, 6), 1);
            is("a loss in the row's place", x.put(5, 0, 1), OTHER_KIND);
            is("nothing in its place", x.keep(5, -1), 1);
            is("nothing in its place", x.taken(5, 6), NOTHING_THERE);
            bytes(0, 1);
            for (int shelf : new int[] {-1, 6, 7, MOST, LEAST}) {
                is("keep() " + shelf, x.keep(shelf, 0), BAD);
                is("row() " + shelf, x.row(shelf, 0, 1), BAD);
                is("put() " + shelf, x.put(shelf, 0, 1), BAD);
                is("element() " + shelf, x.element(shelf, 0), NONE);
                is("shift() from " + shelf, x.shift(shelf, 0, 0, 0, 1), BAD);
                is("shift() to " + shelf, x.shift(0, 0, shelf, 0, 1), BAD);
                is("taken() " + shelf, x.taken(shelf, 0), BAD);
                is("tickets() " + shelf, x.tickets(shelf, 0, 1), BAD);
                is("judge() " + shelf, x.judge(shelf), BAD);
                is("lost() " + shelf, x.lost(shelf, 0), VOID);
                is("whose() " + shelf, x.whose(shelf, 0, 0), BAD);
            }
        });
        test("of 0 bytes, 1 shorts, 2 ints, 3 longs, 4 booleans, of 0 .. 60 elements, 0 at first (false);", () -> {
            x = new LotteryOfLosses();
            for (int sort = 0; sort < 5; sort++) {
                is("of none", x.row(sort, sort, 0), 1);
                is("of none", x.put(sort, 0, 1), NO_PLACE);
                is("of none", x.element(sort, 0), NONE);
                is("of sixty", x.row(sort, sort, 60), 1);
                for (int i = 0; i < 60; i++) {
                    is("0 at first", x.element(sort, i), 0);
                }
                is("the last", x.put(sort, 59, -1), 1);
                is("the last", x.element(sort, 59), sort == 4 ? 1 : -1);
                is("one more", x.put(sort, 60, 1), NO_PLACE);
                is("one more", x.element(sort, 60), NONE);
                is("the next shelf", x.put(sort + 1, 0, 1), NOTHING_THERE);
                is("anew", x.row(sort, sort, 60), 1);
                is("0 at first", x.element(sort, 59), 0);
                is("of sixty-one", x.row(sort, sort, 61), BAD);
                is("far", x.row(sort, sort, MOST), BAD);
            }
            for (int sort : new int[] {-1, 5, MOST, LEAST}) {
                is("sort " + sort, x.row(0, sort, 1), BAD);
            }
        });
        test("what is put in keeps its lowest bits (a boolean: whether it is not 0; 1 or 0).", () -> {
            x = new LotteryOfLosses();
            for (int sort = 0; sort < 5; sort++) {
                x.row(sort, sort, 1);
            }
            long[] puts = {0, 1, -1, 127, 128, 255, 256, -128, -129, 32767, 32768, 65535, 65536, -32768, -32769, MOST, 1L + MOST,
                LEAST, LEAST - 1L, 1L << 32, (1L << 32) - 1, Long.MAX_VALUE, Long.MIN_VALUE, 0x123456789abcdef0L};
            for (long v : puts) {
                long[] kept = {(byte) v, (short) v, (int) v, v, v == 0 ? 0 : 1};
                for (int sort = 0; sort < 5; sort++) {
                    is("put()", x.put(sort, 0, v), 1);
                    is("sort " + sort + " of " + v, x.element(sort, 0), kept[sort]);
                }
            }
        });
    }

    private static void refusals() {
        test("The host's REFUSALS: -11 nothing is there where something is wanted; -12 it is of another kind; -13 a place that is not there; -14 a size below 0.", () -> {
            lots(0, 0);
            x.body(1);
            x.keep(1, 0);
            x.row(2, 1, 2);
            bytes(3, 0, 0);
            is("put() to nothing", x.put(0, 0, 1), -11);
            is("judge() nothing", x.judge(0), -11);
            is("whose() by nothing", x.whose(0, 0, 0), -11);
            is("shift() from nothing", x.shift(0, 0, 3, 0, 1), -11);
            is("shift() to nothing", x.shift(3, 0, 0, 0, 1), -11);
            is("taken() nothing", x.taken(0, 0), -11);
            is("put() to a loss", x.put(1, 0, 1), -12);
            is("judge() a loss", x.judge(1), -12);
            is("judge() shorts", x.judge(2), -12);
            is("whose() by a loss", x.whose(1, 0, 0), -12);
            is("whose() by shorts", x.whose(2, 0, 0), -12);
            is("tickets() from a loss", x.tickets(1, 0, 1), -12);
            is("tickets() from shorts", x.tickets(2, 0, 1), -12);
            is("shift() from a loss", x.shift(1, 0, 3, 0, 1), -12);
            is("shift() to a loss", x.shift(3, 0, 1, 0, 1), -12);
            is("shift() from bytes to shorts", x.shift(3, 0, 2, 0, 1), -12);
            is("taken() a row", x.taken(2, 0), -12);
            is("taken() another kind", x.taken(1, 2), -12);
            is("put() ahead of the first", x.put(3, -1, 1), -13);
            is("put() behind the last", x.put(3, 2, 1), -13);
            is("put() far", x.put(3, MOST, 1), -13);
            is("put() far", x.put(3, LEAST, 1), -13);
            is("shift() behind the last", x.shift(3, 1, 3, 0, 2), -13);
            is("row() of -1", x.row(4, 0, -1), -14);
            is("row() far", x.row(4, 4, LEAST), -14);
            is("no row came", x.taken(4, 0), -11);
        });
    }

    private static void ticketsFromRows() {
        test("TICKETS FROM A ROW of bytes, from a place on: by twos THING, HOLDER: n of them;", () -> {
            lots();
            bytes(0, 0, 5, 7, -1, 3, 3, 4, 4);
            is("one", x.tickets(0, 0, 1), 1);
            is("thing", x.of(0, 1), 0);
            is("holder", x.of(0, 2), 5);
            is("from a place on", x.tickets(0, 2, 2), 2);
            is("thing", x.of(1, 1), 7);
            is("nobody", x.of(1, 2), -1);
            is("thing", x.of(2, 1), 3);
            is("from an odd place on", x.tickets(0, 5, 1), 1);
            is("thing", x.of(3, 1), 3);
            is("holder", x.of(3, 2), 4);
            is("tickets", x.count(0), 4);
            x.row(1, 0, 24);
            lots();
            x.row(1, 0, 24);
            is("twelve", x.tickets(1, 0, 12), 12);
            lots();
            x.row(1, 0, 60);
            is("the last two", x.tickets(1, 58, 1), 1);
        });
        test("it ends where the row is missing, ends (within a two, too), one is not so, or TICKETS are FULL: those ahead came.", () -> {
            lots();
            is("missing", x.tickets(0, 0, 12), 0);
            is("missing, at no place", x.tickets(0, -1, 1), 0);
            bytes(0);
            is("an empty row", x.tickets(0, 0, 1), 0);
            bytes(0, 1);
            is("half a two", x.tickets(0, 0, 1), 0);
            bytes(0, 1, 2, 3, 4, 5);
            is("within a two", x.tickets(0, 0, 3), 2);
            is("those ahead came", x.count(0), 2);
            is("within the first two", x.tickets(0, 4, 1), 0);
            is("at the end", x.tickets(0, 5, 1), 0);
            is("behind the end", x.tickets(0, 6, 1), 0);
            is("far behind", x.tickets(0, MOST, 12), 0);
            is("ahead of the first", x.tickets(0, -1, 1), 0);
            is("a two ahead of the first", x.tickets(0, -2, 12), 0);
            is("far ahead", x.tickets(0, LEAST, 12), 0);
            bytes(0, 1, 2, 3, 4);
            is("at the end", x.tickets(0, 0, 3), 2);
            bytes(0, 1, 2, 8, 0, 1, 2);
            is("no such thing", x.tickets(0, 0, 3), 1);
            bytes(0, -1, 2);
            is("no such thing", x.tickets(0, 0, 1), 0);
            bytes(0, 1, 2, 1, 6, 1, 2);
            is("no such holder", x.tickets(0, 0, 3), 1);
            bytes(0, 1, -2);
            is("no such holder", x.tickets(0, 0, 1), 0);
            is("those ahead came", x.count(0), 6);
            x.row(1, 0, 24);
            is("full", x.tickets(1, 0, 12), 6);
            is("full", x.tickets(1, 0, 1), 0);
            is("those ahead came", x.count(0), 12);
        });
    }

    private static void answers() {
        test("Answers, of several the one named first: BAD (-1): no such number, or it is not as said; NOT (-2): as told; FULL (-3); STATE (-5): as told; -11 to -14.", () -> {
            lots(0, 0, 0, 1, 1, 0, 1, 0, 2, 0, 3, 0, 4, 0, 5, 0, 6, 0, 7, 0, 0, 0, 0, 0);
            is("BAD ahead of FULL", x.ticket(8, 0), -1);
            is("BAD ahead of FULL", x.ticket(0, 6), -1);
            is("FULL", x.ticket(0, 0), -3);
            for (int i = 0; i < 120; i++) {
                x.feed('v');
            }
            is("BAD ahead of FULL", x.feed(-1), -1);
            is("BAD ahead of FULL", x.feed(256), -1);
            is("FULL", x.feed(0), -3);
            for (int i = 0; i < 50; i++) {
                x.body(2);
            }
            is("BAD ahead of FULL", x.body(8), -1);
            is("FULL", x.body(7), -3);
            is("BAD ahead of STATE", x.fairest(14, -2), NONE);
            is("BAD ahead of STATE", x.fairest(131, -2), NONE);
            is("BAD ahead of STATE", x.fairest(11, 12), NONE);
            is("BAD ahead of STATE", x.fairest(11, -3), NONE);
            draw(1);
            is("STATE ahead of NOT", x.fairest(11, 1), -5);
            is("VOID ahead of STATE", x.give(1, 6), VOID);
            is("STATE", x.give(1, 5), -5);
            is("BAD ahead of STATE", x.cancels(20), -1);
            is("STATE", x.cancels(1), -5);
            is("VOID ahead of NOT", x.ahead(5, 0, 3), VOID);
            is("VOID ahead of NOT", x.ahead(5, 2, 0), VOID);
            is("NOT", x.ahead(5, 1, 0), -2);
            is("BAD ahead of NOT", x.ring(5, 2), -1);
            is("NOT", x.ring(5, 1), -2);
            is("BAD ahead of NOT", x.doubt(5, 13), -1);
            is("NOT", x.doubt(5, 12), -2);
            is("BAD ahead of NOT", x.swap(12), -1);
            is("NOT", x.swap(11), -2);
            is("BAD ahead of -11", x.whose(0, 120, 0), -1);
            is("BAD ahead of -11", x.whose(0, 0, 1000), -1);
            is("BAD ahead of -11", x.taken(0, 8), -1);
            is("BAD ahead of -11", x.shift(0, 0, 6, 0, 1), -1);
            is("BAD ahead of -11", x.shift(-1, 0, 0, 0, 1), -1);
            x.keep(1, 0);
            is("BAD ahead of -12", x.tickets(1, 0, 13), -1);
            is("BAD ahead of -12", x.tickets(1, 0, 0), -1);
            is("BAD ahead of -12", x.taken(1, -1), -1);
            is("BAD ahead of -12", x.whose(1, 6, 0), -1);
            is("BAD ahead of -14", x.row(0, 5, -1), -1);
            is("BAD ahead of -14", x.row(6, 0, -1), -1);
            is("-11 ahead of -12", x.shift(1, 0, 0, 0, 1), -11);
            is("-11 ahead of -12", x.shift(0, 0, 1, 0, 1), -11);
            is("-11 ahead of -13", x.shift(0, -1, 0, -1, -1), -11);
            is("-11 ahead of -13", x.put(0, -1, 0), -11);
            is("-12 ahead of -13", x.put(1, -1, 0), -12);
            x.row(2, 0, 1);
            x.row(3, 1, 1);
            is("-12 ahead of -13", x.shift(1, -1, 2, 0, 1), -12);
            is("-12 ahead of -13", x.shift(2, -1, 1, 0, 1), -12);
            is("-12 ahead of -13", x.shift(2, 0, 3, 5, 1), -12);
            is("-13", x.shift(2, 0, 2, 1, 1), -13);
        });
        test("VOID is -2000000000.", () -> {
            is("VOID", LotteryOfLosses.VOID, -2000000000);
            is("BAD", LotteryOfLosses.BAD, -1);
            is("NOT", LotteryOfLosses.NOT, -2);
            is("FULL", LotteryOfLosses.FULL, -3);
            is("STATE", LotteryOfLosses.STATE, -5);
        });
        test("What is answered so changes nothing.", Refused::run);
        test("All memory is the class's own.", () -> {
            LotteryOfLosses one = new LotteryOfLosses();
            LotteryOfLosses other = new LotteryOfLosses();
            x = one;
            law("77");
            x.ticket(3, 3);
            x.mend(33, 0, 1);
            x.body(7);
            x.act(0, 3, 1);
            bytes(5, 0);
            x.feed('v');
            draw(0);
            x.image();
            x = other;
            for (int what = 0; what < 6; what++) {
                is("count", x.count(what), 0);
            }
            is("love", x.of(33, 0), 10);
            is("trace", x.trace(0), BAD);
            is("shelf", x.put(5, 0, 1), NOTHING_THERE);
            is("led", x.led(0) + x.led(13), 0);
            is("no image", x.back(), STATE);
            x.ticket(0, 0);
            is("the law", x.loss(0, 1), 10);
        });
    }
}
