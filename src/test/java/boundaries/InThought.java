/** Part 2 of the document's terms: what is lost in thought, and plans. */
final class InThought extends Boundaries {
    private InThought() {
    }

    static void run() {
        means();
        worsts();
        gifts();
        swaps();
        cancels();
        fairest();
        syndicates();
    }

    private static void means() {
        test("MEAN of one: its LOSS by m DRAWS on the mean: a fraction in lowest terms;", () -> {
            lots(0, 0, 1, 0, 2, 1, 3, -1);
            loves(0, 30, 10);
            fraction("by none", x.mean(0, 0, 0), x.mean(0, 0, 1), 0, 1);
            fraction("by one", x.mean(0, 1, 0), x.mean(0, 1, 1), 10, 1);
            fraction("by all", x.mean(0, 4, 0), x.mean(0, 4, 1), 40, 1);
            fraction("of nothing", x.mean(5, 2, 0), x.mean(5, 2, 1), 0, 1);
            fraction("lowest", x.mean(1, 1, 0), x.mean(1, 1, 1), 5, 2);
            x.mend(12, 0, 7);
            fraction("lowest already", x.mean(1, 1, 0), x.mean(1, 1, 1), 7, 4);
            law("-v");
            fraction("below 0", x.mean(1, 1, 0), x.mean(1, 1, 1), -7, 4);
            fraction("below 0", x.mean(0, 1, 0), x.mean(0, 1, 1), -10, 1);
            lots(0, 5, 1, 5, 2, 5, 3, 5, 4, 5, 5, 5, 6, 5, 7, 5, 0, 5, 1, 5, 2, 5, 3, 5);
            fraction("of twelve tickets and eight things", x.mean(5, 12, 0), x.mean(5, 12, 1), 80, 1);
            fraction("by one less", x.mean(5, 11, 0), x.mean(5, 11, 1), 230, 3);
            fraction("by one", x.mean(5, 1, 0), x.mean(5, 1, 1), 10, 1);
            lots();
            for (int i = 0; i < 12; i++) {
                x.ticket(i % 8, i % 6);
            }
            law("-99");
            fraction("all lose the most", x.mean(-1, 12, 0), x.mean(-1, 12, 1), -12 * 99, 1);
            fraction("of 924 sets", x.mean(-1, 6, 0), x.mean(-1, 6, 1), -6 * 99, 1);
        });
        test("MORE: how likely it loses more than x (-999 .. 999);", () -> {
            lots(0, 0, 1, 1);
            int m = 2000 + 999;
            fraction("just as much", x.more(0, m + 10, 0), x.more(0, m + 10, 1), 0, 1);
            fraction("one less", x.more(0, m + 9, 0), x.more(0, m + 9, 1), 1, 2);
            fraction("nothing", x.more(0, m, 0), x.more(0, m, 1), 1, 2);
            fraction("below nothing", x.more(0, m - 1, 0), x.more(0, m - 1, 1), 1, 1);
            fraction("-999", x.more(0, 2000, 0), x.more(0, 2000, 1), 1, 1);
            fraction("999", x.more(0, 2000 + 1998, 0), x.more(0, 2000 + 1998, 1), 0, 1);
            is("1000", x.more(0, 1999, 0), NONE);
            is("1000", x.more(0, 2000 + 1999, 0), NONE);
            is("-1000, by no draw", x.more(0, -1, 0), NONE);
            is("far", x.more(0, MOST, 0), NONE);
            is("far", x.more(0, LEAST, 0), NONE);
            law("-99");
            fraction("-99", x.more(0, m - 99, 0), x.more(0, m - 99, 1), 1, 2);
            fraction("-100", x.more(0, m - 100, 0), x.more(0, m - 100, 1), 1, 1);
            lots(0, 0, 1, 0, 2, 0, 3, 0, 4, 0, 5, 0, 6, 0, 7, 0);
            law("99");
            is("most of all", x.more(0, 8 * 2000 + 999 + 791, 0), 1);
            is("most of all", x.more(0, 8 * 2000 + 999 + 792, 0), 0);
        });
        test("all together: MEAN of all;", () -> {
            lots(0, 0, 1, 5, 2, -1);
            fraction("all", x.mean(-1, 3, 0), x.mean(-1, 3, 1), 20, 1);
            fraction("all, by one", x.mean(-1, 1, 0), x.mean(-1, 1, 1), 20, 3);
            fraction("all, by none", x.mean(-1, 0, 0), x.mean(-1, 0, 1), 0, 1);
            law("(k=0)*5-(k=5)*5");
            fraction("all, by gain and loss", x.mean(-1, 2, 0), x.mean(-1, 2, 1), 0, 1);
        });
        test("KEEPS: how likely a THING is not lost by it by m DRAWS (lost ahead in deed: 0).", () -> {
            lots(0, 0, 0, 0, 0, 1, 1, 0, 2, -1);
            fraction("by none", x.keeps(0, 0, 0), x.keeps(0, 0, 1), 1, 1);
            fraction("by all", x.keeps(0, 5, 0), x.keeps(0, 5, 1), 0, 1);
            fraction("by two of two tickets", x.keeps(0, 2, 0), x.keeps(0, 2, 1), 3, 10);
            fraction("by as many as the others", x.keeps(0, 3, 0), x.keeps(0, 3, 1), 1, 10);
            fraction("by one more", x.keeps(0, 4, 0), x.keeps(0, 4, 1), 0, 1);
            fraction("nobody's", x.keeps(2, 5, 0), x.keeps(2, 5, 1), 1, 1);
            x.mend(3, 3, 1);
            fraction("a blank", x.keeps(1, 5, 0), x.keeps(1, 5, 1), 1, 1);
            draw(0);
            fraction("lost in deed", x.keeps(0, 0, 0), x.keeps(0, 0, 1), 0, 1);
            fraction("lost in deed", x.keeps(0, 2, 0), x.keeps(0, 2, 1), 0, 1);
            fraction("not by another", x.keeps(10, 0, 0), x.keeps(10, 0, 1), 1, 1);
            x.year();
            fraction("in a new year", x.keeps(0, 0, 0), x.keeps(0, 0, 1), 1, 1);
        });
    }

    private static void worsts() {
        test("WORST: the greatest LOSS, by which set (bits; of like ones the least);", () -> {
            lots(0, 0, 1, 0, 2, 0, 3, 1);
            loves(0, 10, 30, 30);
            is("by none", x.worst(0, 0, 0), 0);
            is("by none", x.worst(0, 0, 1), 0);
            is("by one", x.worst(0, 1, 0), 30);
            is("by one, of like ones", x.worst(0, 1, 1), 2);
            is("by two", x.worst(0, 2, 1), 6);
            is("by three", x.worst(0, 3, 1), 7);
            is("by all", x.worst(0, 4, 1), 15);
            is("who loses nothing", x.worst(5, 2, 0), 0);
            is("who loses nothing", x.worst(5, 2, 1), 3);
            law("-v");
            is("below 0", x.worst(0, 3, 0), -40);
            is("below 0", x.worst(0, 3, 1), 11);
            draw(0);
            is("of those in", x.worst(5, 2, 1), 6);
        });
        test("BEST likewise the least;", () -> {
            lots(0, 0, 1, 0, 2, 0, 3, 1);
            loves(0, 30, 10, 10);
            is("by none", x.worst(0, 0, 2), 0);
            is("by none", x.worst(0, 0, 3), 0);
            is("by one", x.worst(0, 1, 2), 0);
            is("by one", x.worst(0, 1, 3), 8);
            is("by two, of like ones", x.worst(0, 2, 2), 10);
            is("by two, of like ones", x.worst(0, 2, 3), 10);
            is("by all", x.worst(0, 4, 2), 50);
            is("by all", x.worst(0, 4, 3), 15);
            is("who loses nothing", x.worst(5, 2, 3), 3);
            law("-v");
            is("below 0", x.worst(0, 1, 2), -30);
            is("below 0", x.worst(0, 1, 3), 1);
        });
    }

    private static void gifts() {
        test("RID of a TICKET: by how much less its HOLDER's MEAN by m DRAWS is, if nobody holds it: a fraction (below 0, too; nobody's: 0).", () -> {
            lots(0, 0, 1, 0, 0, 0, 2, -1, 3, 1);
            fraction("by none", x.rid(1, 0, 0), x.rid(1, 0, 1), 0, 1);
            fraction("by one", x.rid(1, 1, 0), x.rid(1, 1, 1), 2, 1);
            fraction("by all", x.rid(1, 5, 0), x.rid(1, 5, 1), 10, 1);
            fraction("of two, by all", x.rid(0, 5, 0), x.rid(0, 5, 1), 0, 1);
            fraction("of two, by one", x.rid(0, 1, 0), x.rid(0, 1, 1), 2, 1);
            fraction("nobody's", x.rid(3, 5, 0), x.rid(3, 5, 1), 0, 1);
            law("9-n*3");
            fraction("below 0", x.rid(0, 5, 0), x.rid(0, 5, 1), -6, 1);
            fraction("below 0", x.rid(1, 1, 0), x.rid(1, 1, 1), -6, 5);
            is("it is in thought", x.of(1, 2), 0);
        });
        test("GIVEN: to whom of all PEOPLE it should be given so that MEAN of all is least (of like ones the least number): who; that.", () -> {
            lots(0, 3, 1, -1);
            is("of like ones", x.given(0, 1, 2), 0);
            is("nobody's", x.given(1, 2, 2), 0);
            for (int one = 0; one < 5; one++) {
                x.mend(10 * one, 0, 9 - one);
            }
            is("the last but one", x.given(0, 2, 2), 4);
            fraction("that", x.given(0, 2, 0), x.given(0, 2, 1), 5, 1);
            fraction("that, by one", x.given(0, 1, 0), x.given(0, 1, 1), 5, 2);
            x.mend(50, 0, 0);
            is("the last", x.given(0, 1, 2), 5);
            fraction("nothing", x.given(0, 1, 0), x.given(0, 1, 1), 0, 1);
            is("by none", x.given(0, 0, 2), 0);
            x.mend(20, 0, 0);
            is("of like ones", x.given(0, 1, 2), 2);
            x.mend(30, 0, 0);
            is("its own holder is one of all", x.given(0, 1, 2), 2);
            x.mend(20, 0, 1);
            is("its own holder", x.given(0, 1, 2), 3);
            law("-v");
            is("below 0", x.given(0, 2, 2), 0);
            fraction("below 0", x.given(0, 2, 0), x.given(0, 2, 1), -9, 1);
            is("it is in thought", x.of(0, 2), 3);
        });
    }

    private static void swaps() {
        test("SWAP: of all pairs of TICKETS that are IN with unlike HOLDERS (both somebody)", () -> {
            lots(0, 0, 1, 1);
            is("nobody gains", x.swap(2), NOT);
            loves(0, 50, 10);
            is("IN, of two", x.swap(2), 1);
            x.give(1, 0);
            is("like holders", x.swap(2), NOT);
            x.give(1, -1);
            is("nobody's", x.swap(2), NOT);
            x.give(0, -1);
            x.give(1, 1);
            loves(1, 10, 50);
            is("nobody's", x.swap(2), NOT);
            x.give(0, 0);
            is("IN, of two", x.swap(2), 1);
            draw(1);
            is("not IN", x.swap(1), NOT);
            x.year();
            draw(0);
            is("not IN", x.swap(1), NOT);
            lots();
            is("no ticket", x.swap(0), NOT);
        });
        test("that by whose exchange neither of both HOLDERS loses more on the mean by m DRAWS, at least one less, and both together least (of like ones the first): 20 times the lesser and the other; NOT.", () -> {
            lots(0, 0, 1, 1);
            loves(0, 11, 10);
            loves(1, 20, 20);
            is("one less is enough", x.swap(1), 1);
            is("by no draw nobody less", x.swap(0), NOT);
            x.mend(10, 0, 21);
            is("neither more", x.swap(1), NOT);
            x.mend(10, 0, 19);
            x.mend(0, 0, 10);
            is("the other less", x.swap(1), 1);
            x.mend(10, 0, 20);
            is("neither less", x.swap(1), NOT);
            x.mend(0, 0, 9);
            x.mend(10, 0, 1);
            is("the first more", x.swap(1), NOT);
            // two pairs gain: the first to a lesser sum by less, the second by more
            lots(0, 0, 1, 1, 2, 2, 3, 3);
            loves(0, 20, 10, 99, 99);
            loves(1, 10, 10, 99, 99);
            loves(2, 99, 99, 90, 40);
            loves(3, 99, 99, 40, 90);
            is("both together least", x.swap(1), 1);
            loves(0, 20, 80);
            loves(1, 10, 99);
            is("the first more", x.swap(4), 20 * 2 + 3);
            loves(0, 99, 40);
            loves(1, 40, 99);
            is("of like ones the first", x.swap(1), 1);
            loves(0, 99, 41);
            is("both together least", x.swap(1), 20 * 2 + 3);
            lots(0, -1, 0, -1, 0, -1, 0, -1, 0, -1, 0, -1, 0, -1, 0, -1, 0, -1, 0, -1, 0, 4, 1, 5);
            loves(4, 9, 1);
            is("the last two", x.swap(3), 20 * 10 + 11);
            is("it is in thought", x.of(10, 2), 4);
            is("it is in thought", x.of(11, 2), 5);
        });
    }

    private static void cancels() {
        test("CANCEL: of all pairs of TICKETS that are IN, of one THING, with one HOLDER (somebody), that by which, both out, MEAN of all by m DRAWS is least", () -> {
            lots();
            is("no ticket", x.cancel(0), NOT);
            lots(0, 0, 0, 1, 1, 0, 2, -1, 2, -1);
            is("none such", x.cancel(2), NOT);
            x.mend(2, 1, 0);
            is("of one thing", x.cancel(2), 2);
            x.give(2, 1);
            is("with one holder", x.cancel(2), 20 * 1 + 2);
            draw(2);
            is("one is not IN", x.cancel(2), NOT);
            lots(0, 0, 0, 0, 1, 1, 1, 1, 2, -1);
            x.mend(11, 0, 11);
            is("the dearer pair", x.cancel(1), 20 * 2 + 3);
            x.mend(0, 0, 12);
            is("the dearer pair", x.cancel(1), 1);
            is("it is in thought", x.count(1), 5);
            x.cancels(20 * 2 + 3);
            x.cancels(1);
            is("none is IN", x.cancel(1), NOT);
            lots(0, 0, 0, 0, 1, 0, 2, 0, 3, 1, 3, 1, 4, 1);
            law("n=2?50;n");
            is("both out, not one", x.cancel(1), 20 * 4 + 5);
        });
        test("(m as many as are IN then at most; of like ones the first): likewise; NOT.", () -> {
            lots(0, 0, 0, 0, 1, 1, 1, 1);
            for (int m = 0; m <= 4; m++) {
                is("of like ones the first, by " + m, x.cancel(m), 1);
            }
            x.mend(11, 0, 11);
            is("by none all are alike", x.cancel(0), 1);
            for (int m = 1; m <= 4; m++) {
                is("the dearer pair, by " + m, x.cancel(m), 20 * 2 + 3);
            }
            lots(0, 0, 0, 0);
            is("as many as are IN then: none", x.cancel(2), 1);
            lots(0, 0, 0, 0, 0, 0);
            is("of like ones the first of three", x.cancel(3), 1);
            lots(1, 1, 1, 1, 1, 1, 0, 0, 0, 0);
            x.mend(11, 0, 11);
            is("one of three would be left", x.cancel(5), 20 * 3 + 4);
            // two draws of the three that are left and all three are by other pairs best
            lots(2, -1, 0, 0, 0, 0, 1, 1, 1, 1);
            law("k=0?10;d=1?30;-90");
            is("by two", x.cancel(2), 20 * 1 + 2);
            for (int m = 3; m <= 5; m++) {
                is("by as many as are IN then, of " + m, x.cancel(m), 20 * 3 + 4);
            }
        });
    }

    private static void fairest() {
        test("FAIREST: the TICKETS 0 on that are IN (6 at most, else STATE) given anew to PEOPLE 0 .. p less 1 (p 1 .. 3)", () -> {
            lots(0, 5, 1, 5, 2, 5, 3, 5, 4, 5, 5, 5);
            fraction("six", x.fairest(61, -2), x.fairest(61, -1), 60, 1);
            fraction("six to three", x.fairest(63, -2), x.fairest(63, -1), 20, 1);
            is("the last of six", x.fairest(63, 5), 2);
            is("a seventh", x.ticket(6, -1), 6);
            is("seven", x.fairest(63, -2), STATE);
            is("seven", x.fairest(63, -1), STATE);
            is("seven", x.fairest(1, 0), STATE);
            is("no such ticket", x.fairest(1, 7), NONE);
            draw(2);
            is("six are IN of seven", x.fairest(63, 6), 2);
            is("p", x.fairest(60, -2), NONE);
            is("p", x.fairest(64, -2), NONE);
            is("p", x.fairest(69, -2), NONE);
            is("p of one", x.fairest(61, 6), 0);
            is("p of two", x.fairest(62, 6), 1);
            is("far", x.fairest(MOST, -2), NONE);
            is("far", x.fairest(LEAST, -2), NONE);
            is("it is in thought", x.of(0, 2), 5);
        });
        test("so that the greatest MEAN of these by m DRAWS is least (of like ones the first by HOLDERS, TICKET by TICKET): that MEAN; the HOLDER of a TICKET (NOT: it is not IN).", () -> {
            lots(0, 5, 1, 5, 2, 5);
            is("alone", x.fairest(31, 2), 0);
            fraction("by two", x.fairest(32, -2), x.fairest(32, -1), 20, 1);
            is("the first by holders", x.fairest(32, 0), 0);
            is("the first by holders", x.fairest(32, 1), 0);
            is("the first by holders", x.fairest(32, 2), 1);
            fraction("by three", x.fairest(33, -2), x.fairest(33, -1), 10, 1);
            is("the first by holders", x.fairest(33, 0), 0);
            is("the first by holders", x.fairest(33, 1), 1);
            is("the first by holders", x.fairest(33, 2), 2);
            is("by no draw all to the first", x.fairest(3, 2), 0);
            fraction("by no draw", x.fairest(3, -2), x.fairest(3, -1), 0, 1);
            fraction("a fraction", x.fairest(13, -2), x.fairest(13, -1), 10, 3);
            x.mend(0, 0, 99);
            is("not to whom it hurts", x.fairest(33, 0), 1);
            is("not to whom it hurts", x.fairest(33, 1), 0);
            law("-v");
            fraction("below 0", x.fairest(31, -2), x.fairest(31, -1), -119, 1);
            fraction("below 0, the greatest of two", x.fairest(32, -2), x.fairest(32, -1), -20, 1);
            draw(1);
            is("not IN", x.fairest(21, 1), NOT);
            is("IN", x.fairest(21, 2), 0);
            draw(0);
            is("the first is not IN", x.fairest(11, 0), NOT);
            lots();
            fraction("no ticket", x.fairest(3, -2), x.fairest(3, -1), 0, 1);
            is("no ticket", x.fairest(3, 0), NONE);
            is("a what below -2", x.fairest(3, -3), NONE);
        });
    }

    private static void syndicates() {
        test("SYNDICATE: those in a set share all their LOSSES alike; one would stay, if all their LOSSES together by the worst set of m DRAWS, by how many they are, are no more than its own WORST:", () -> {
            lots(0, 0, 0, 1, 0, 2, 0, 3, 0, 4, 0, 5);
            int[] loves = {20, 20, 1, 2, 3, 4};
            for (int one = 0; one < 6; one++) {
                x.mend(10 * one, 0, loves[one]);
            }
            is("just as much as its own", x.syndicate(6), 3);
            is("by one draw a fourth of four is just its own", x.syndicate(1), 60);
            x.mend(50, 0, 5);
            is("a fourth of five is more than one, a third of three is not", x.syndicate(1), 28);
            x.mend(0, 0, 21);
            is("more than its own by a half", x.syndicate(6), NOT);
            law("-v");
            is("below 0, by one draw the worst is no loss", x.syndicate(1), 63);
            is("below 0, by all", x.syndicate(6), NOT);
        });
        test("the set (two at least) with most people that all would stay in (of like ones the least bits): bits; NOT.", () -> {
            lots();
            is("all lose nothing", x.syndicate(0), 63);
            lots(0, 0, 1, 1, 2, 2, 3, 3, 4, 4, 5, 5);
            is("all lose alike", x.syndicate(6), 63);
            for (int one = 0; one < 6; one++) {
                x.mend(11 * one, 0, 10 + 10 * one);
            }
            is("one is not enough", x.syndicate(6), NOT);
            x.mend(55, 0, 50);
            is("two", x.syndicate(6), 48);
            x.mend(11, 0, 10);
            is("of like ones the least", x.syndicate(6), 3);
            x.mend(44, 0, 40);
            x.mend(33, 0, 50);
            x.mend(44, 0, 50);
            is("most people", x.syndicate(6), 56);
            is("by none all lose nothing", x.syndicate(0), 63);
        });
    }
}
