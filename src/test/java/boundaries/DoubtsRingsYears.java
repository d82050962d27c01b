/** Part 3 of the document's terms: doubts, what is told ahead, rings, years seen. */
final class DoubtsRingsYears extends Boundaries {
    private DoubtsRingsYears() {
    }

    static void run() {
        doubts();
        toldAhead();
        rings();
        seen();
        whose();
    }

    private static void doubts() {
        test("FORGED: by m DRAWS none of one's TICKETS (IN, no matter if BLANK) was drawn: how likely: a fraction;", () -> {
            lots(0, 0, 1, 0, 2, 1, 3, -1);
            fraction("by none", x.forged(0, 0, 0), x.forged(0, 0, 1), 1, 1);
            fraction("by one", x.forged(0, 1, 0), x.forged(0, 1, 1), 1, 2);
            fraction("by as many as the others", x.forged(0, 2, 0), x.forged(0, 2, 1), 1, 6);
            fraction("by one more", x.forged(0, 3, 0), x.forged(0, 3, 1), 0, 1);
            fraction("by all", x.forged(0, 4, 0), x.forged(0, 4, 1), 0, 1);
            fraction("of none, by all", x.forged(5, 4, 0), x.forged(5, 4, 1), 1, 1);
            x.mend(0, 3, 1);
            fraction("a blank", x.forged(0, 1, 0), x.forged(0, 1, 1), 1, 2);
            draw(0);
            fraction("one is not IN", x.forged(0, 1, 0), x.forged(0, 1, 1), 2, 3);
            draw(1);
            fraction("none is IN", x.forged(0, 2, 0), x.forged(0, 2, 1), 1, 1);
            lots();
            fraction("no ticket", x.forged(0, 0, 0), x.forged(0, 0, 1), 1, 1);
            lots(0, 2, 0, 2, 0, 2, 0, 2, 0, 2, 0, 2, 0, 2, 0, 2, 0, 2, 0, 2, 0, 2, 0, 2);
            fraction("of all", x.forged(2, 1, 0), x.forged(2, 1, 1), 0, 1);
            fraction("of all, by none", x.forged(2, 0, 0), x.forged(2, 0, 1), 1, 1);
        });
        test("DOUBT: the fewest m by which that is less than x of twelve (1 .. 12) likely; NOT.", () -> {
            lots(0, 0, 1, 1, 2, 2);
            is("less than 12 of 12", x.doubt(0, 12), 1);
            is("less than 9 of 12", x.doubt(0, 9), 1);
            is("just 8 of 12 is not less", x.doubt(0, 8), 2);
            is("less than 5 of 12", x.doubt(0, 5), 2);
            is("just 4 of 12 is not less", x.doubt(0, 4), 3);
            is("less than 1 of 12", x.doubt(0, 1), 3);
            is("0 of 12", x.doubt(0, 0), BAD);
            is("13 of 12", x.doubt(0, 13), BAD);
            is("-1 of 12", x.doubt(0, -1), BAD);
            is("far", x.doubt(0, MOST), BAD);
            is("far", x.doubt(0, LEAST), BAD);
            is("who holds none", x.doubt(3, 12), NOT);
            draw(0);
            is("whose is not IN", x.doubt(0, 12), NOT);
            is("of two", x.doubt(1, 1), 2);
            lots();
            is("no ticket", x.doubt(0, 12), NOT);
            lots(0, 0, 1, 1, 1, 1, 1, 1, 1, 1, 1, 1, 1, 1, 1, 1);
            is("seven of eight is less than 11 of 12", x.doubt(0, 11), 1);
            is("six of eight is just 9 of 12", x.doubt(0, 9), 3);
            is("six of eight is less than 10 of 12", x.doubt(0, 10), 2);
            lots(0, 2, 0, 2, 0, 2, 0, 2, 0, 2, 0, 2, 0, 2, 0, 2, 0, 2, 0, 2, 0, 2, 0, 1);
            is("eleven of twelve tickets", x.doubt(2, 1), 2);
            is("eleven of twelve tickets", x.doubt(2, 2), 1);
            is("one of twelve tickets", x.doubt(1, 1), 12);
            is("one of twelve tickets", x.doubt(1, 11), 2);
        });
        test("ODDS: how likely a told set of TICKETS (bits, all IN) is among m drawn: a fraction.", () -> {
            lots(0, 0, 1, 0, 2, 1, 3, -1);
            fraction("none, by none", x.odds(0, 0, 0), x.odds(0, 0, 1), 1, 1);
            fraction("none, by all", x.odds(0, 4, 0), x.odds(0, 4, 1), 1, 1);
            fraction("one, by none", x.odds(8, 0, 0), x.odds(8, 0, 1), 0, 1);
            fraction("one, by one", x.odds(8, 1, 0), x.odds(8, 1, 1), 1, 4);
            fraction("two, by one", x.odds(9, 1, 0), x.odds(9, 1, 1), 0, 1);
            fraction("one, by two", x.odds(8, 2, 0), x.odds(8, 2, 1), 1, 2);
            fraction("two, by two", x.odds(9, 2, 0), x.odds(9, 2, 1), 1, 6);
            fraction("two, by three", x.odds(9, 3, 0), x.odds(9, 3, 1), 1, 2);
            fraction("all, by one less", x.odds(15, 3, 0), x.odds(15, 3, 1), 0, 1);
            fraction("all, by all", x.odds(15, 4, 0), x.odds(15, 4, 1), 1, 1);
            is("one is none", x.odds(16, 4, 0), NONE);
            is("below 0", x.odds(-1, 4, 0), NONE);
            is("far", x.odds(LEAST, 4, 0), NONE);
            draw(1);
            is("one is not IN", x.odds(2, 1, 0), NONE);
            is("one of two is not IN", x.odds(3, 1, 0), NONE);
            fraction("all that are IN", x.odds(13, 3, 0), x.odds(13, 3, 1), 1, 1);
        });
    }

    private static void toldAhead() {
        test("TOLD AHEAD: one knows which set of m will be drawn (bits, just m that are IN), and gives one of its TICKETS that are IN away, to one other:", () -> {
            lots(0, 0, 1, 1, 2, 0);
            is("no draw", x.ahead(0, 0, 2), 0);
            is("one", x.ahead(0, 1, 2), 0);
            is("all", x.ahead(0, 7, 2), 10);
            is("one is none", x.ahead(0, 8, 0), VOID);
            is("below 0", x.ahead(0, -1, 0), VOID);
            is("far", x.ahead(0, LEAST, 0), VOID);
            draw(2);
            is("one is not IN", x.ahead(0, 4, 0), VOID);
            is("one of two is not IN", x.ahead(0, 5, 0), VOID);
            is("of those that are IN", x.ahead(0, 2, 0), 0);
            is("to another", x.ahead(0, 1, 1), 1);
            is("to another", x.ahead(1, 2, 1), 0);
            is("it is in thought", x.of(0, 2), 0);
        });
        test("which TICKET (of like ones the least), to whom (of like ones the least), so that its own LOSS is least, then the other's greatest: NOT: it holds none that is IN; its LOSS then.", () -> {
            lots(0, 0, 1, 0, 2, 0, 0, 5);
            is("of like ones", x.ahead(0, 7, 0), 0);
            is("to whom of like ones", x.ahead(0, 7, 1), 1);
            is("its loss then", x.ahead(0, 7, 2), 20);
            x.mend(2, 0, 11);
            is("its own least", x.ahead(0, 7, 0), 2);
            is("its own least", x.ahead(0, 7, 2), 20);
            x.mend(42, 0, 12);
            is("then the other's greatest", x.ahead(0, 7, 1), 4);
            x.mend(32, 0, 12);
            is("of like ones the least", x.ahead(0, 7, 1), 3);
            x.mend(50, 0, 99);
            is("its own ahead of the other's", x.ahead(0, 7, 0), 2);
            is("the other's with what it holds", x.ahead(0, 15, 1), 5);
            is("who holds none", x.ahead(1, 7, 0), NOT);
            is("who holds none", x.ahead(1, 7, 1), NOT);
            is("who holds none", x.ahead(1, 0, 2), NOT);
            draw(3);
            is("whose is not IN", x.ahead(5, 7, 0), NOT);
            is("whose is not IN", x.ahead(5, 0, 2), NOT);
            law("-v");
            is("below 0", x.ahead(0, 7, 2), -21);
            is("below 0, the other's greatest is of who lost it ahead", x.ahead(0, 7, 1), 5);
            law("n*10");
            is("n is less by what is given", x.ahead(0, 1, 2), 0);
            is("n is less by what is given", x.ahead(0, 7, 2), 40);
        });
    }

    private static void rings() {
        test("RING: each wishes away the TICKET of its own (IN) whose THING it LOVES most (of like ones the least), and would take the one that it LOVES least of all those wished away (of like ones the least; its own, too):", () -> {
            lots(0, 0, 1, 0, 2, 1);
            x.mend(2, 0, 5);
            x.mend(10, 0, 5);
            is("of like ones the least is wished away", x.ring(1, 1), 0);
            is("two", x.ring(0, 0), 2);
            x.mend(1, 0, 11);
            x.mend(11, 0, 12);
            is("the most loved is wished away", x.ring(1, 0), 1);
            x.mend(11, 0, 4);
            is("the most loved is wished away", x.ring(1, 0), 2);
            draw(1);
            is("one that is not IN is none", x.ring(1, 0), 2);
            x.mend(10, 0, 11);
            is("one that is not IN is none", x.ring(1, 0), 1);
            is("to what it loves less", x.ring(0, 0), 0);
            x.mend(10, 0, 10);
            is("of like ones the least is taken", x.ring(1, 1), 0);
            x.mend(12, 0, 9);
            is("its own, too", x.ring(1, 1), 1);
            lots(3, 0, 3, 1, 3, -1);
            is("of like ones the least, its own", x.ring(0, 0), 1);
            is("nobody's is not wished away", x.ring(0, 1), 0);
            is("of like ones the least", x.ring(1, 0), 0);
        });
        test("whose ring one is in: how many PEOPLE go round in it (1: it keeps its own; 0: it has none, or wishes that of one who is in another ring): the number; whose TICKET one gets (NOT: it is in no ring).", () -> {
            lots(0, 0, 1, 1, 2, 2, 3, 3, 4, 4, 5, 5);
            is("keeps its own", x.ring(0, 0), 1);
            is("keeps its own", x.ring(0, 1), 0);
            for (int one = 1; one < 6; one++) {
                is("of one in another ring", x.ring(one, 0), 0);
                is("of one in another ring", x.ring(one, 1), NOT);
            }
            for (int one = 0; one < 6; one++) {
                x.mend(10 * one + (one + 1) % 6, 0, 0);
            }
            for (int one = 0; one < 6; one++) {
                is("all go round", x.ring(one, 0), 6);
                is("all go round", x.ring(one, 1), (one + 1) % 6);
            }
            x.give(5, -1);
            is("has none", x.ring(5, 0), 0);
            is("has none", x.ring(5, 1), NOT);
            x.mend(40, 0, 1);
            is("the others go round", x.ring(4, 0), 5);
            is("the others go round", x.ring(4, 1), 0);
            x.mend(41, 0, 0);
            is("led to a ring, not in it", x.ring(0, 0), 0);
            is("led to a ring, not in it", x.ring(0, 1), NOT);
            is("a ring of four", x.ring(4, 0), 4);
            draw(4);
            is("its own is not IN", x.ring(4, 0), 0);
            is("its own is not IN", x.ring(4, 1), NOT);
            lots();
            is("no ticket", x.ring(0, 0), 0);
            is("no ticket", x.ring(5, 1), NOT);
        });
    }

    private static void seen() {
        test("SEEN: a ROW of bytes on a SHELF: TICKETS drawn one by one, from now: JUDGED: the first that was not IN (also none such); NOT.", () -> {
            lots(0, 0, 1, 1, 2, 2);
            bytes(0);
            is("none seen", x.judge(0), NOT);
            bytes(0, 2, 1, 0);
            is("all were IN", x.judge(0), NOT);
            bytes(0, 2, 2);
            is("twice", x.judge(0), 1);
            bytes(0, 2, 1, 3, 4);
            is("none such", x.judge(0), 2);
            bytes(0, -1);
            is("none such", x.judge(0), 0);
            bytes(0, 127);
            is("none such", x.judge(0), 0);
            bytes(0, 1, 32);
            is("none such", x.judge(0), 1);
            bytes(0, 1, 33);
            is("none such", x.judge(0), 1);
            bytes(0, 1, -128);
            is("none such", x.judge(0), 1);
            draw(1);
            bytes(0, 0, 1, 2);
            is("from now", x.judge(0), 1);
            x.year();
            is("in a new year", x.judge(0), NOT);
            is("it is in thought", x.count(1), 3);
            bytes(5, 0);
            is("on the last shelf", x.judge(5), NOT);
            x.row(5, 0, 60);
            is("a full row", x.judge(5), 1);
            x.row(5, 1, 2);
            is("shorts", x.judge(5), OTHER_KIND);
            is("nothing there", x.judge(4), NOTHING_THERE);
        });
        test("LOST: one's LOSS by them (one by one, n anew each time; till the first that is not so).", () -> {
            lots(0, 0, 1, 0, 2, 0, 0, 1);
            bytes(0, 2, 0, 3, 1);
            is("all", x.lost(0, 0), 30);
            is("of another", x.lost(0, 1), 10);
            is("of one who holds none", x.lost(0, 5), 0);
            bytes(1, 2, 2, 0, 3, 1);
            is("till the second", x.lost(1, 0), 10);
            is("till the second", x.lost(1, 1), 0);
            bytes(2, 9, 0);
            is("none", x.lost(2, 0), 0);
            bytes(3);
            is("none seen", x.lost(3, 0), 0);
            law("n");
            is("n anew", x.lost(0, 0), 3 + 2 + 1);
            law("g*30+d*10+t");
            is("one by one, not by numbers", x.lost(0, 0), 2 + 40 + 91);
            draw(2);
            is("not IN from now", x.lost(0, 0), 0);
            draw(0);
            bytes(4, 1);
            is("from now, g and d", x.lost(4, 0), 81);
            x.year();
            x.mend(0, 3, 1);
            law("n*10+g");
            is("a blank", x.lost(0, 0), 30 + 11);
        });
    }

    private static void whose() {
        test("WHOSE: who (bits) may hold a TICKET, all else as it is, so that one's LOSS by what is SEEN is just x (-999 .. 999).", () -> {
            lots(0, 0, 1, 1, 2, -1);
            bytes(0, 0, 2);
            is("who loses it", x.whose(0, 21, 10), 2);
            is("who does not", x.whose(0, 21, 0), 61);
            is("with its own", x.whose(0, 20, 20), 1);
            is("all but itself", x.whose(0, 20, 10), 62);
            is("nobody", x.whose(0, 20, 0), 0);
            is("the last", x.whose(0, 25, 10), 32);
            is("one that is not seen", x.whose(0, 10, 10), 63);
            is("one that is not seen", x.whose(0, 10, 11), 0);
            is("999", x.whose(0, 20, 999), 0);
            is("-999", x.whose(0, 20, -999), 0);
            is("1000", x.whose(0, 20, 1000), BAD);
            is("-1000", x.whose(0, 20, -1000), BAD);
            is("far", x.whose(0, 20, MOST), BAD);
            is("far", x.whose(0, 20, LEAST), BAD);
            bytes(1);
            is("none seen", x.whose(1, 0, 0), 63);
            bytes(2, 2, 2, 0);
            is("till the first that is not so", x.whose(2, 0, 0), 63);
            is("till the first that is not so", x.whose(2, 20, 10), 1);
            law("-99");
            is("below 0", x.whose(0, 20, -198), 1);
            law("n*20-d");
            is("n with it", x.whose(0, 10, 40), 1);
            is("n without it", x.whose(0, 10, 20), 62);
            is("it is in thought", x.of(1, 2), 1);
            draw(1);
            is("not IN it is no matter", x.whose(0, 10, 19), 63);
        });
    }
}
