/** What the tests of boundaries share: an object to ask, and the document's numbers, written out once more. */
abstract class Boundaries {
    static final int BAD = -1, NOT = -2, FULL = -3, STATE = -5, VOID = -2000000000;
    static final int NOTHING_THERE = -11, OTHER_KIND = -12, NO_PLACE = -13, BELOW_0 = -14;
    static final long NONE = Long.MIN_VALUE;
    static final int LEAST = Integer.MIN_VALUE, MOST = Integer.MAX_VALUE;
    static LotteryOfLosses x;

    static void test(String sentence, Runnable answers) {
        Sentences.test(sentence, answers);
    }

    static void is(String call, long got, long want) {
        Due.is(call, got, want);
    }

    static void fraction(String call, long above, long below, long wantAbove, long wantBelow) {
        is(call + " above", above, wantAbove);
        is(call + " below", below, wantBelow);
    }

    /** A new object with tickets told as thing, holder, thing, holder, .. */
    static void lots(int... twos) {
        x = new LotteryOfLosses();
        for (int i = 0; i + 1 < twos.length; i += 2) {
            is("ticket " + i / 2, x.ticket(twos[i], twos[i + 1]), i / 2);
        }
    }

    static void loves(int one, int... loves) {
        for (int thing = 0; thing < loves.length; thing++) {
            x.mend(10 * one + thing, 0, loves[thing]);
        }
    }

    static int tell(String text) {
        for (char c : text.toCharArray()) {
            x.feed(c);
        }
        return x.law();
    }

    static void law(String text) {
        is("law() of " + text, tell(text), 1);
    }

    static void fault(String text, int place) {
        is("law() of " + text, tell(text), -100 - place);
    }

    static void bytes(int shelf, int... elements) {
        is("row", x.row(shelf, 0, elements.length), 1);
        for (int i = 0; i < elements.length; i++) {
            is("put", x.put(shelf, i, elements[i]), 1);
        }
    }

    static int next(int z) {
        return z * 1103515245 + 12345;
    }

    /** Draws the told ticket in deed, by a seed that draws it. */
    static void draw(int ticket) {
        int in = x.count(1);
        int rank = 0;
        for (int i = 0; i < ticket; i++) {
            rank += x.of(i, 10);
        }
        int seed = 0;
        while (in > 0 && (next(seed) >>> 8) % in != rank) {
            seed++;
        }
        is("draw", x.draw(seed), ticket);
    }
}
