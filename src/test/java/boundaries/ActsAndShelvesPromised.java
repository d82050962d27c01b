/** Promises 37 to 46, each by the sentences under its heading, and how long an object is used. */
final class ActsAndShelvesPromised extends Boundaries {
    private ActsAndShelvesPromised() {
    }

    static void run() {
        acts();
        rows();
        elements();
        shifts();
        counts();
    }

    private static void acts() {
        test("`int body(int kind)`: A LOSS of a KIND (0 .. 7) is kept: its number. BAD, FULL.", () -> {
            x = new LotteryOfLosses();
            for (int kind : new int[] {-1, 8, MOST, LEAST}) {
                is("kind " + kind, x.body(kind), BAD);
            }
            is("the first kind", x.body(0), 0);
            for (int i = 1; i < 50; i++) {
                is("its number", x.body(7), i);
            }
            is("full", x.body(7), FULL);
            is("bodies", x.count(4), 50);
        });
        test("`int act(int body, int act, int x)`: An ACT (0 .. 3) of a LOSS with x. 0, and no TRACE then: no such LOSS, ACT.", () -> {
            x = new LotteryOfLosses();
            is("none", x.act(0, 0, 5), 0);
            x.body(0);
            x.body(0);
            for (int[] no : new int[][] {{2, 0}, {-1, 0}, {MOST, 0}, {LEAST, 0}, {1, -1}, {1, 4}, {1, MOST}, {1, LEAST}, {2, 4}}) {
                is("the last", x.act(1, 0, 5), 6);
                is("a trace", x.trace(0), 1);
                is("act " + no[0] + " " + no[1], x.act(no[0], no[1], 5), 0);
                is("no trace", x.trace(0), BAD);
                is("none ran", x.count(5), 0);
            }
            is("the last act", x.act(1, 3, 5), 12);
        });
        test("`int trace(int i)`: THE TRACE's i-th body. BAD.", () -> {
            x = new LotteryOfLosses();
            is("none", x.trace(0), BAD);
            x.body(1);
            x.act(0, 1, 5);
            is("the first", x.trace(0), 10);
            is("the last", x.trace(2), 1);
            for (int i : new int[] {-1, 3, 23, 24, 25, MOST, LEAST}) {
                is("the " + i + "-th", x.trace(i), BAD);
            }
        });
    }

    private static void rows() {
        test("`int keep(int shelf, int body)`: A SHELF holds nothing (body -1), or a LOSS: 1. BAD.", () -> {
            x = new LotteryOfLosses();
            is("no body yet", x.keep(0, 0), BAD);
            x.body(3);
            x.body(4);
            is("the last body", x.keep(5, 1), 1);
            is("a loss", x.taken(5, 4), 4);
            for (int body : new int[] {-2, 2, 50, MOST, LEAST}) {
                is("body " + body, x.keep(5, body), BAD);
            }
            is("a loss still", x.taken(5, 4), 4);
            is("nothing", x.keep(5, -1), 1);
            is("nothing", x.taken(5, 4), NOTHING_THERE);
            is("nothing again", x.keep(5, -1), 1);
            for (int shelf : new int[] {-1, 6, MOST, LEAST}) {
                is("shelf " + shelf, x.keep(shelf, 0), BAD);
                is("shelf " + shelf, x.keep(shelf, -1), BAD);
            }
        });
        test("`int row(int shelf, int sort, int n)`: A SHELF holds a ROW: 1. BAD (sort, n above 60); -14.", () -> {
            x = new LotteryOfLosses();
            is("none", x.row(5, 4, 0), 1);
            is("of sixty", x.row(5, 4, 60), 1);
            is("of sixty-one", x.row(5, 4, 61), BAD);
            is("far", x.row(5, 4, MOST), BAD);
            is("sixty still", x.element(5, 59), 0);
            is("of -1", x.row(5, 4, -1), BELOW_0);
            is("far", x.row(5, 4, LEAST), BELOW_0);
            is("sixty still", x.element(5, 59), 0);
            for (int sort : new int[] {-1, 5, MOST, LEAST}) {
                is("sort " + sort, x.row(0, sort, 1), BAD);
                is("sort " + sort + ", ahead of -14", x.row(0, sort, -1), BAD);
            }
            for (int shelf : new int[] {-1, 6, MOST, LEAST}) {
                is("shelf " + shelf, x.row(shelf, 0, 1), BAD);
                is("shelf " + shelf + ", ahead of -14", x.row(shelf, 0, -1), BAD);
            }
            is("nothing came", x.taken(0, 0), NOTHING_THERE);
        });
    }

    private static void elements() {
        test("`int put(int shelf, int i, long v)`: Element i of a ROW becomes v: 1. BAD, -11, -12, -13.", () -> {
            x = new LotteryOfLosses();
            x.body(0);
            x.keep(1, 0);
            x.row(2, 3, 2);
            is("the first", x.put(2, 0, 5), 1);
            is("the last", x.put(2, 1, Long.MIN_VALUE), 1);
            is("the first", x.element(2, 0), 5);
            is("the last", x.element(2, 1), Long.MIN_VALUE);
            for (int i : new int[] {-1, 2, 60, MOST, LEAST}) {
                is("place " + i, x.put(2, i, 1), NO_PLACE);
                is("place " + i + " of nothing", x.put(0, i, 1), NOTHING_THERE);
                is("place " + i + " of a loss", x.put(1, i, 1), OTHER_KIND);
                is("place " + i + " of shelf 6", x.put(6, i, 1), BAD);
                is("place " + i + " of shelf -1", x.put(-1, i, 1), BAD);
            }
            x.row(2, 3, 0);
            is("an empty row", x.put(2, 0, 1), NO_PLACE);
        });
        test("`long element(int shelf, int i)`: Element i of a ROW; Long.MIN_VALUE: BAD, -11 to -13.", () -> {
            x = new LotteryOfLosses();
            x.body(0);
            x.keep(1, 0);
            bytes(2, 5, -6);
            is("the first", x.element(2, 0), 5);
            is("the last", x.element(2, 1), -6);
            for (int i : new int[] {-1, 2, 60, MOST, LEAST}) {
                is("place " + i, x.element(2, i), Long.MIN_VALUE);
            }
            is("nothing", x.element(0, 0), Long.MIN_VALUE);
            is("a loss", x.element(1, 0), Long.MIN_VALUE);
            is("shelf 6", x.element(6, 0), Long.MIN_VALUE);
            is("shelf -1", x.element(-1, 0), Long.MIN_VALUE);
            x.row(2, 0, 0);
            is("an empty row", x.element(2, 0), Long.MIN_VALUE);
        });
    }

    private static void row(int shelf, int... want) {
        for (int i = 0; i < want.length; i++) {
            is("element " + i + " of " + shelf, x.element(shelf, i), want[i]);
        }
        is("no more", x.element(shelf, want.length), NONE);
    }

    private static void shifts() {
        test("`int shift(int shelf, int i, int other, int j, int n)`: n elements of a ROW from i on come to another one (or the same) from j on, as they all were before: n. BAD, -11 (either), -12 (no ROWS, or of unlike sorts), -13.", () -> {
            x = new LotteryOfLosses();
            bytes(0, 1, 2, 3, 4, 5);
            bytes(1, 6, 7, 8);
            is("to another", x.shift(0, 3, 1, 0, 2), 2);
            row(1, 4, 5, 8);
            row(0, 1, 2, 3, 4, 5);
            is("forward in the same", x.shift(0, 0, 0, 1, 4), 4);
            row(0, 1, 1, 2, 3, 4);
            is("back in the same", x.shift(0, 2, 0, 0, 3), 3);
            row(0, 2, 3, 4, 3, 4);
            is("a whole row", x.shift(1, 0, 0, 2, 3), 3);
            row(0, 2, 3, 4, 5, 8);
            is("none", x.shift(0, 0, 1, 0, 0), 0);
            is("none, at both ends", x.shift(0, 5, 1, 3, 0), 0);
            int[][] no = {{-1, 0, 1}, {0, -1, 1}, {-1, 0, 0}, {0, -1, 0}, {5, 0, 1}, {6, 0, 0}, {0, 3, 1}, {0, 4, 0}, {0, 0, 4}, {3, 0, 3},
                {0, 1, 3}, {0, 0, -1}, {1, 1, -1}, {MOST, 0, 1}, {0, MOST, 1}, {0, 0, MOST}, {LEAST, 0, 1}, {0, LEAST, 1}, {0, 0, LEAST},
                {MOST, MOST, MOST}, {LEAST, LEAST, LEAST}, {1, 0, MOST}, {MOST, 0, 0}};
            for (int[] w : no) {
                is("places " + w[0] + " " + w[1] + " " + w[2], x.shift(0, w[0], 1, w[1], w[2]), NO_PLACE);
            }
            row(0, 2, 3, 4, 5, 8);
            row(1, 4, 5, 8);
            x.body(0);
            x.keep(2, 0);
            x.row(3, 1, 5);
            x.row(4, 4, 5);
            is("from a loss", x.shift(2, 0, 0, 0, 1), OTHER_KIND);
            is("to a loss", x.shift(0, 0, 2, 0, 1), OTHER_KIND);
            is("from a loss to itself", x.shift(2, 0, 2, 0, 0), OTHER_KIND);
            is("of unlike sorts", x.shift(0, 0, 3, 0, 1), OTHER_KIND);
            is("of unlike sorts", x.shift(4, 0, 0, 0, 0), OTHER_KIND);
            is("from nothing", x.shift(5, 0, 0, 0, 1), NOTHING_THERE);
            is("to nothing", x.shift(0, 0, 5, 0, 1), NOTHING_THERE);
            is("from nothing to itself", x.shift(5, 0, 5, 0, 0), NOTHING_THERE);
            for (int shelf : new int[] {-1, 6, MOST, LEAST}) {
                is("from shelf " + shelf, x.shift(shelf, 0, 0, 0, 1), BAD);
                is("to shelf " + shelf, x.shift(0, 0, shelf, 0, 1), BAD);
                is("to shelf " + shelf + " from nothing", x.shift(5, 0, shelf, 0, 1), BAD);
            }
            x.row(5, 3, 60);
            x.put(5, 0, Long.MAX_VALUE);
            is("all but one of sixty", x.shift(5, 0, 5, 1, 59), 59);
            is("the second", x.element(5, 1), Long.MAX_VALUE);
            is("not the third", x.element(5, 2), 0);
            is("one too many", x.shift(5, 0, 5, 1, 60), NO_PLACE);
        });
    }

    private static void counts() {
        test("`int taken(int shelf, int k)`: What a SHELF holds, taken for a LOSS of KIND k (0 .. 7), or under it: its KIND. BAD, -11, -12.", () -> {
            x = new LotteryOfLosses();
            x.body(7);
            x.body(0);
            is("nothing", x.taken(0, 7), NOTHING_THERE);
            x.keep(0, 0);
            is("its own kind", x.taken(0, 7), 7);
            is("next above", x.taken(0, 4), 7);
            is("above that", x.taken(0, 1), 7);
            is("topmost", x.taken(0, 0), 7);
            is("beside", x.taken(0, 2), OTHER_KIND);
            x.keep(5, 1);
            is("the topmost is of its own kind", x.taken(5, 0), 0);
            is("the topmost is under none", x.taken(5, 1), OTHER_KIND);
            x.row(1, 0, 1);
            is("a row", x.taken(1, 0), OTHER_KIND);
            for (int k : new int[] {-1, 8, MOST, LEAST}) {
                is("kind " + k, x.taken(0, k), BAD);
                is("kind " + k + " of nothing", x.taken(2, k), BAD);
                is("kind " + k + " of a row", x.taken(1, k), BAD);
            }
            for (int shelf : new int[] {-1, 6, MOST, LEAST}) {
                is("shelf " + shelf, x.taken(shelf, 0), BAD);
            }
        });
        test("`int count(int what)`: How many: 0 TICKETS, 1 that are IN, 2 bytes on THE TAPE, 3 changes that may be UNDONE, 4 BODIES, 5 bodies that ran in the latest act() (all, kept or not). BAD.", () -> {
            lots(0, 0, 1, 1);
            draw(0);
            x.feed('v');
            x.mend(0, 0, 1);
            x.mend(0, 0, 2);
            x.mend(0, 0, 3);
            x.undo();
            x.body(7);
            x.act(0, 3, 1);
            is("tickets", x.count(0), 2);
            is("that are IN", x.count(1), 1);
            is("bytes", x.count(2), 1);
            is("changes", x.count(3), 2);
            is("bodies", x.count(4), 1);
            is("that ran", x.count(5), 14);
            for (int what : new int[] {-1, 6, 7, MOST, LEAST}) {
                is("what " + what, x.count(what), BAD);
            }
        });
        test("An object is used for at most 512 calls after it has been made; what later calls answer is free.", () -> {
            x = new LotteryOfLosses();
            for (int i = 0; i < 511; i++) {
                is("call " + i, x.mend(i % 6 * 10 + i % 8, 0, i % 100) >= 0 ? 1 : 0, 1);
            }
            is("the 512th", x.of(510 % 6 * 10 + 510 % 8, 0), 510 % 100);
        });
        test("nothing about an object after its 512th call.", () -> {
            x = new LotteryOfLosses();
            for (int i = 0; i < 255; i++) {
                is("feed()", x.feed('v'), 1);
                is("law()", x.law(), 1);
            }
            x.ticket(0, 0);
            is("the 512th", x.loss(0, 1), 10);
        });
    }
}
