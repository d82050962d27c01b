/** Part 1 of the document's terms: people, tickets, the law, draws. */
final class PeopleLawDraws extends Boundaries {
    private PeopleLawDraws() {
    }

    static void run() {
        people();
        grammar();
        values();
        faults();
        takenByTheLaw();
        draws();
    }

    private static void people() {
        test("PEOPLE 0 .. 5.", () -> {
            lots(0, 0, 1, 5);
            bytes(0, 1);
            is("mend()", x.mend(51, 0, 11), 10);
            is("of() love", x.of(51, 0), 11);
            is("of() lost", x.of(5, 11), 0);
            is("loss()", x.loss(5, 2), 11);
            is("mean()", x.mean(5, 2, 0), 11);
            is("worst()", x.worst(5, 2, 0), 11);
            is("more()", x.more(5, 2 * 2000 + 999 + 10, 0), 1);
            is("keeps()", x.keeps(51, 2, 0), 0);
            is("forged()", x.forged(5, 2, 0), 0);
            is("doubt()", x.doubt(5, 1), 2);
            is("ahead()", x.ahead(5, 2, 0), 1);
            is("ring()", x.ring(5, 0), 0);
            is("lost()", x.lost(0, 5), 11);
            is("whose()", x.whose(0, 15, 11), 32);
            is("drawn()", x.drawn(1, 102, 5), 11);
            is("led()", x.led(15), 0);
            is("give()", x.give(0, 5), 0);
            is("mend() HOLDER", x.mend(0, 2, 0), 5);
            for (int one : new int[] {-1, 6, 7, MOST, LEAST}) {
                if (one != -1) {
                    is("ticket() " + one, x.ticket(0, one), BAD);
                    is("mend() HOLDER " + one, x.mend(0, 2, one), VOID);
                    is("mean() " + one, x.mean(one, 0, 0), NONE);
                    is("drawn() " + one, x.drawn(1, 101, one), VOID);
                    is("give() " + one, x.give(0, one), VOID);
                }
                is("of() lost " + one, x.of(one, 11), VOID);
                is("loss() " + one, x.loss(one, 0), VOID);
                is("worst() " + one, x.worst(one, 0, 0), VOID);
                is("more() " + one, x.more(one, 999, 0), NONE);
                is("forged() " + one, x.forged(one, 0, 0), NONE);
                is("doubt() " + one, x.doubt(one, 1), BAD);
                is("ahead() " + one, x.ahead(one, 0, 0), VOID);
                is("ring() " + one, x.ring(one, 0), BAD);
                is("lost() " + one, x.lost(0, one), VOID);
            }
            for (int number : new int[] {-1, 60, 67, MOST, LEAST}) {
                is("mend() love " + number, x.mend(number, 0, 1), VOID);
                is("of() love " + number, x.of(number, 0), VOID);
                is("keeps() " + number, x.keeps(number, 0, 0), NONE);
            }
            is("whose() of 6", x.whose(0, 6, 0), BAD);
            is("whose() of 9", x.whose(0, 9, 0), BAD);
            is("led() of 6", x.led(16), VOID);
            is("led() ahead of 0", x.led(9), VOID);
        });
        test("THINGS 0 .. 7; LOVES of one for a THING (0 .. 99; 10 at first).", () -> {
            lots(7, 0, 0, 1);
            for (int thing : new int[] {-1, 8, 9, MOST, LEAST}) {
                is("ticket() " + thing, x.ticket(thing, 0), BAD);
                is("mend() THING " + thing, x.mend(0, 1, thing), VOID);
            }
            is("THING stays", x.of(0, 1), 7);
            for (int one = 0; one < 6; one++) {
                for (int thing = 0; thing < 10; thing++) {
                    int number = 10 * one + thing;
                    is("of() " + number, x.of(number, 0), thing < 8 ? 10 : VOID);
                }
                is("mend() thing 8", x.mend(10 * one + 8, 0, 1), VOID);
                is("keeps() thing 8", x.keeps(10 * one + 8, 0, 0), NONE);
                is("keeps() thing 9", x.keeps(10 * one + 9, 0, 0), NONE);
                is("keeps() thing 7", x.keeps(10 * one + 7, 0, 0), 1);
            }
            for (int love : new int[] {-1, 100, MOST, LEAST}) {
                is("mend() to " + love, x.mend(7, 0, love), VOID);
            }
            is("love stays", x.of(7, 0), 10);
            is("mend() to 99", x.mend(7, 0, 99), 10);
            is("loss()", x.loss(0, 1), 99);
            is("mend() to 0", x.mend(7, 0, 0), 99);
            is("loss()", x.loss(0, 1), 0);
            is("mend() THING to 0", x.mend(0, 1, 0), 7);
            is("mend() THING to 7", x.mend(0, 1, 7), 0);
        });
        test("TICKETS 0 .. 11, as they come: THING, HOLDER (one of the PEOPLE, or -1: nobody), BLANK (0, 1; 0 at first: drawn, it takes nothing).", () -> {
            lots(0, -1, 1, 5, 2, 0, 3, 0, 4, 0, 5, 0, 6, 0, 7, 0, 0, 1, 1, 1, 2, 1, 3, 4);
            is("a thirteenth", x.ticket(0, 0), FULL);
            bytes(0, 11);
            for (int ticket : new int[] {-1, 12, 13, 31, 32, MOST, LEAST}) {
                is("of() THING " + ticket, x.of(ticket, 1), VOID);
                is("of() HOLDER " + ticket, x.of(ticket, 2), VOID);
                is("of() BLANK " + ticket, x.of(ticket, 3), VOID);
                is("of() IN " + ticket, x.of(ticket, 10), VOID);
                is("mend() " + ticket, x.mend(ticket, 1, 0), VOID);
                is("rid() " + ticket, x.rid(ticket, 0, 0), NONE);
                is("given() " + ticket, x.given(ticket, 0, 0), NONE);
                is("give() " + ticket, x.give(ticket, 0), VOID);
            }
            is("fairest() 12", x.fairest(1, 12), NONE);
            is("whose() 12", x.whose(0, 120, 0), BAD);
            is("cancels() 12", x.cancels(12), BAD);
            is("cancels() 11 with 12", x.cancels(20 * 11 + 12), BAD);
            is("loss() 12", x.loss(0, 1 << 12), VOID);
            is("odds() 12", x.odds(1 << 12, 1, 0), NONE);
            is("ahead() 12", x.ahead(0, 1 << 12, 0), VOID);
            is("of() the last", x.of(11, 1), 3);
            is("of() the last", x.of(11, 2), 4);
            is("whose() the last", x.whose(0, 11 * 10 + 4, 10), 16);
            is("BLANK at first", x.of(11, 3), 0);
            is("nobody holds it", x.of(0, 2), -1);
            for (int blank : new int[] {-1, 2, MOST, LEAST}) {
                is("mend() BLANK " + blank, x.mend(11, 3, blank), VOID);
            }
            for (int holder : new int[] {-2, 6, MOST, LEAST}) {
                is("mend() HOLDER " + holder, x.mend(11, 2, holder), VOID);
            }
            is("loss()", x.loss(4, 1 << 11), 10);
            is("mend() BLANK 1", x.mend(11, 3, 1), 0);
            is("drawn, it takes nothing", x.loss(4, 1 << 11), 0);
            is("mend() BLANK 0", x.mend(11, 3, 0), 1);
            is("loss()", x.loss(4, 1 << 11), 10);
            is("mend() HOLDER -1", x.mend(11, 2, -1), 4);
            is("nobody's takes nothing", x.loss(4, 1 << 11), 0);
        });
    }

    /** The loss by a ticket with thing 7, held by one 5, at a love of 50. */
    private static void value(String text, int loss) {
        lots(7, 5);
        x.mend(57, 0, 50);
        law(text);
        is("loss by " + text, x.loss(5, 1), loss);
    }

    private static void grammar() {
        test("THE LAW is a TEXT by THE TAPE (at most 120 bytes): LINES, one or more, parted by ; .", () -> {
            String longest = "0?1;".repeat(29) + "v+27";
            value(longest, 77);
            lots(0, 0);
            for (int i = 1; i <= 120; i++) {
                is("feed()", x.feed(longest.charAt(i - 1)), i);
            }
            is("the 121st byte", x.feed('9'), FULL);
            is("bytes", x.count(2), 120);
            is("law()", x.law(), 1);
            is("loss()", x.loss(0, 1), 37);
            value("v", 50);
            value("1;2", 1);
            value("0?1;2", 2);
            value("0?1;".repeat(29) + "9", 9);
            fault("", 0);
            fault(";", 0);
            fault("v;", 2);
            fault(";v", 0);
            fault("v;;v", 2);
            fault("v;".repeat(60), 120);
        });
        test("LINE: E, or E ? E (what counts if the first is not 0).", () -> {
            value("0?5;7", 7);
            value("1?5;7", 5);
            value("-1?5;7", 5);
            value("9999?5;7", 5);
            value("1?0|3", 1);
            value("0|3?5", 5);
            value("1?((((((7))))))", 7);
            value("((((((7))))))?8", 8);
            value("8", 8);
            lots();
            fault("v?", 2);
            fault("?v", 0);
            fault("1?2?3", 3);
            fault("(1?2)", 2);
            fault("(1;2)", 2);
            fault("1?;2", 2);
        });
        test("E = A { | A }.", () -> {
            value("0|0|0|3", 1);
            value("0|0|0|0", 0);
            value("1|0&0", 1);
            value("0&0|1", 1);
            lots();
            fault("v|", 2);
            fault("|v", 0);
            fault("v||v", 2);
            fault("v|&v", 2);
        });
        test("A = B { & B }.", () -> {
            value("1&1&1&2", 1);
            value("1&1&1&0", 0);
            value("1<2&3>2", 1);
            value("2&1<0", 0);
            value("3=2&0|1", 1);
            lots();
            fault("v&", 2);
            fault("&v", 0);
            fault("v&&v", 2);
        });
        test("B = S, or S < S, S = S, S > S.", () -> {
            value("1+1=2", 1);
            value("1<1+1", 1);
            value("(3<2)=0|0", 1);
            value("(3>2)>0", 1);
            lots();
            fault("1<2<3", 3);
            fault("1<2=1", 3);
            fault("1=1>0", 3);
            fault("1>1>0", 3);
            fault("v<", 2);
            fault("=v", 0);
            fault("v<=n", 2);
        });
        test("S = P { + P, - P }.", () -> {
            value("9-3-2", 4);
            value("9-3+2", 8);
            value("1+2*3", 7);
            value("2*3+4", 10);
            value("9--3", 12);
            lots();
            fault("v+", 2);
            fault("+v", 0);
            fault("v++v", 2);
            fault("v-+v", 2);
        });
        test("P = O { * O, / O, % O }.", () -> {
            value("64/4/2", 8);
            value("7*5%4", 3);
            value("7%4*5", 15);
            value("9/2*2", 8);
            value("9*-2", -18);
            lots();
            fault("v*", 2);
            fault("*v", 0);
            fault("v+*v", 2);
            fault("v*/v", 2);
            fault("v%%v", 2);
        });
        test("O = a number (1 to 4 digits), a NAME, ! O, - O, ( E ).", () -> {
            value("0", 0);
            value("7", 7);
            value("42", 42);
            value("099", 99);
            value("9999/101", 99);
            value("0009", 9);
            value("!!7", 1);
            value("--7", 7);
            value("-!0", -1);
            value("!-0", 1);
            value("(((7)))", 7);
            value("(0|3)", 1);
            value("9+(0|0&1<2+3*4)", 9);
            value("9-(3-2)", 8);
            lots();
            fault("12345", 4);
            fault("00000", 4);
            fault("v+10000", 6);
            fault("v1", 1);
            fault("1v", 1);
            fault("vn", 1);
            fault("x", 0);
            fault("V", 0);
            fault("()", 1);
            fault("(", 1);
            fault("(v", 2);
            fault("v)", 1);
            fault("(v))", 3);
            fault("!", 1);
            fault("-", 1);
            fault("v!", 1);
            fault("v(n)", 1);
        });
        test("No blanks.", () -> {
            lots();
            fault(" ", 0);
            fault(" v", 0);
            fault("v ", 1);
            fault("v +n", 1);
            fault("v+ n", 2);
            fault("( v)", 1);
            fault("v\t", 1);
            fault("v\n", 1);
            fault("v;\r", 2);
            fault("1 0", 1);
        });
        test("NAMES: v LOVES of the HOLDER for the THING, n how many TICKETS it holds (that are in), g how many THINGS it has lost ahead (this year), t the THING, k the HOLDER, d how many TICKETS were drawn ahead (this year).", () -> {
            value("v", 50);
            value("t", 7);
            value("k", 5);
            value("n*100+g*10+d", 99);
            names();
        });
        test("At most 6 of ( ! - ahead of an O are open at once.", () -> {
            value("((((((7))))))", 7);
            value("!!!!!!7", 1);
            value("------7", 7);
            value("(-!(-!7))", -1);
            value("((((((7))))))+((((((8))))))", 15);
            value("!!!!!!7+!!!!!!8", 2);
            value("(1+(1+(1+(1+(1+(2))))))", 7);
            value("(!!!!!7)-(!!!!!0)", -1);
            lots();
            fault("(((((((7)))))))", 6);
            fault("!!!!!!!7", 6);
            fault("-------7", 6);
            fault("(-!(-!-7))", 6);
            fault("(-!(-!(7)))", 6);
            fault("-((((((7))))))", 6);
            fault("(1+(1+(1+(1+(1+(1+(7)))))))", 18);
            fault("((((((7))))))+(((((((8)))))))", 20);
        });
    }

    private static void names() {
        lots(0, 0, 1, 0, 2, 0, 3, 1, 4, -1, 1, 0);
        x.mend(2, 3, 1);
        law("n");
        is("n, a blank too", x.loss(0, 1), 4);
        is("n of another", x.loss(1, 8), 1);
        is("two of a thing", x.cancels(20 * 1 + 5), 4);
        is("n of those in", x.loss(0, 1), 2);
        draw(2);
        is("n of those in", x.loss(0, 1), 1);
        x.year();
        is("n in a new year", x.loss(0, 1), 4);
        x.give(4, 0);
        is("n with a gift", x.loss(0, 1), 5);
        law("g");
        is("g", x.loss(0, 1), 0);
        draw(2);
        is("a blank is not lost", x.loss(0, 1), 0);
        draw(3);
        is("another's are not its own", x.loss(0, 1), 0);
        draw(1);
        is("g", x.loss(0, 1), 1);
        draw(5);
        is("a thing is lost once", x.loss(0, 1), 1);
        law("d");
        is("d", x.loss(0, 1), 4);
        x.year();
        is("d in a new year", x.loss(0, 1), 0);
        x.cancels(20 * 1 + 5);
        is("cancelled is not drawn", x.loss(0, 1), 0);
        law("g");
        is("g in a new year", x.loss(0, 1), 0);
    }

    private static void values() {
        test("Ints that wrap;", () -> {
            value("9999*9999*9999>0", 9999 * 9999 * 9999 > 0 ? 1 : 0);
            value("9999*9999*9999%100", 9999 * 9999 * 9999 % 100);
            value("8192*8192*32<0", 1);
            value("8192*8192*32-1>0", 1);
            value("8192*8192*32+8192*8192*32", 0);
            value("8192*8192*32=-(8192*8192*32)", 1);
            value("8192*8192*32/-1<0", 1);
            value("8192*8192*32%-1", 0);
            value("0-8192*8192*32-1>0", 1);
        });
        test("/ and % toward 0, by 0 they give 0;", () -> {
            value("7/2", 3);
            value("-7/2", -3);
            value("7/-2", -3);
            value("-7/-2", 3);
            value("7%4", 3);
            value("-7%4", -3);
            value("7%-4", 3);
            value("-7%-4", -3);
            value("1/2", 0);
            value("-1/2", 0);
            value("7/0", 0);
            value("-7/0", 0);
            value("0/0", 0);
            value("7%0", 0);
            value("0%0", 0);
            value("-7%(v-50)", 0);
        });
        test("| & < = > ! give 1, 0; all is worked out.", () -> {
            value("5|0", 1);
            value("0|-5", 1);
            value("5|7", 1);
            value("0|0", 0);
            value("5&7", 1);
            value("5&0", 0);
            value("0&5", 0);
            value("2<3", 1);
            value("3<3", 0);
            value("3<2", 0);
            value("-1<0", 1);
            value("3=3", 1);
            value("3=2", 0);
            value("3>3", 0);
            value("4>3", 1);
            value("2>3", 0);
            value("!0", 1);
            value("!1", 0);
            value("!-1", 0);
            value("0&7/0", 0);
            value("1|7%0", 1);
        });
        test("The first LINE without a first E, or whose first E is not 0, counts; none: 0.", () -> {
            value("5;7", 5);
            value("0?1;2;3", 2);
            value("0?1;0-1?2;3", 2);
            value("1?0;3", 0);
            value("0?5", 0);
            value("0?5;0?6", 0);
            value("0?5;1-1?6;v-50?7", 0);
            value("0?0;7", 7);
            value("0?5;0", 0);
            value("v?0;7", 0);
            lots(0, 0);
            x.mend(0, 0, 0);
            law("7");
            is("at no love", x.loss(0, 1), 7);
        });
        test("It gives the LOSS by a TICKET that is drawn (held within -99 .. 99).", () -> {
            value("98", 98);
            value("99", 99);
            value("100", 99);
            value("9999*9999", 99);
            value("8192*8192*32-1", 99);
            value("-98", -98);
            value("-99", -99);
            value("-100", -99);
            value("8192*8192*32", -99);
            lots(0, 0, 1, 0);
            law("1000");
            is("each by itself", x.loss(0, 3), 198);
            draw(0);
            is("in deed", x.led(10), 99);
        });
        test("Without a text: v.", () -> {
            lots(0, 0);
            is("loss()", x.loss(0, 1), 10);
            x.mend(0, 0, 99);
            is("loss()", x.loss(0, 1), 99);
            fault("", 0);
            is("no text came", x.loss(0, 1), 99);
            draw(0);
            is("in deed", x.led(10), 99);
        });
    }

    private static void faults() {
        test("FAULT: the place (from 0) of the first byte with which no TEXT goes on; the length, if it ends too early.", () -> {
            lots();
            fault("x", 0);
            fault("\0", 0);
            fault("v\u00ff", 1);
            fault("vxx", 1);
            fault("xv", 0);
            fault("", 0);
            fault("v+", 2);
            fault("v?n;", 4);
            fault("v?(n", 4);
            fault("((((((", 6);
            fault("v+".repeat(60), 120);
            fault("v+".repeat(59) + "v;", 120);
            lots();
            fault("v+".repeat(59) + "vx", 119);
            fault("v".repeat(120), 1);
            law("v+".repeat(58) + "v?v");
            for (int letter = 0; letter < 256; letter++) {
                boolean text = "0123456789vngtkd".indexOf(letter) >= 0;
                boolean begun = "(!-".indexOf(letter) >= 0;
                boolean on = ";?|&<=>+-*/%".indexOf(letter) >= 0;
                x = new LotteryOfLosses();
                x.feed(letter);
                is("law() of byte " + letter, x.law(), text ? 1 : begun ? -101 : -100);
                x.feed('v');
                x.feed(letter);
                is("law() of v and byte " + letter, x.law(), on ? -102 : -101);
            }
        });
    }

    private static void takenByTheLaw() {
        test("A TICKET is IN till it is drawn, or cancelled.", () -> {
            lots(0, 0, 0, 0, 1, 1);
            is("of()", x.of(2, 10), 1);
            draw(2);
            is("drawn", x.of(2, 10), 0);
            is("loss() of it", x.loss(1, 4), VOID);
            is("of()", x.of(0, 10), 1);
            is("cancels()", x.cancels(1), 0);
            is("cancelled", x.of(0, 10), 0);
            is("cancelled", x.of(1, 10), 0);
            is("loss() of it", x.loss(0, 2), VOID);
            is("count()", x.count(1), 0);
        });
        test("DRAWN, it is taken from its HOLDER: a LOSS by THE LAW, if it is no BLANK, somebody holds it, and the HOLDER has not lost that THING ahead (in deed, too); else none.", () -> {
            lots(0, 0, 0, 0, 0, 1, 1, -1, 2, 0);
            x.mend(4, 3, 1);
            is("a loss", x.loss(0, 1), 10);
            is("a thing once", x.loss(0, 3), 10);
            is("another's", x.loss(1, 7), 10);
            is("nobody's", x.mean(-1, 5, 0), 20);
            is("a blank", x.loss(0, 16), 0);
            law("7");
            draw(0);
            is("in deed", x.led(10), 7);
            is("lost in deed", x.loss(0, 2), 0);
            is("not lost by another", x.loss(1, 4), 7);
            draw(1);
            is("in deed, once", x.led(10), 7);
            draw(3);
            is("in deed, nobody's", x.led(10) + x.led(11), 7);
            draw(4);
            is("in deed, a blank", x.led(10), 7);
            is("in deed, a blank", x.of(0, 11), 1);
            draw(2);
            is("in deed, another's", x.led(11), 7);
            x.year();
            law("0");
            draw(0);
            is("a thing is lost at no loss", x.of(0, 11), 1);
            law("7");
            is("a thing is lost at no loss", x.loss(0, 2), 0);
        });
        test("SEVERAL drawn at once are taken by numbers, one after the other (n as all were ahead of them; g, d go on).", () -> {
            lots(1, 0, 0, 0, 1, 1, 2, 0);
            law("n");
            is("n as all were", x.loss(0, 1 + 2 + 8), 9);
            is("n of another", x.loss(1, 15), 1);
            law("g*10+t");
            is("by numbers", x.loss(0, 1 + 2 + 8), 1 + 10 + 22);
            law("d");
            is("d goes on", x.loss(0, 15), 0 + 1 + 3);
            is("d goes on", x.loss(1, 15), 2);
            x.mend(1, 3, 1);
            is("d over a blank", x.loss(0, 15), 0 + 3);
            law("g*10+7");
            is("g not over a blank", x.loss(0, 15), 7 + 17);
        });
    }

    private static void draws() {
        test("By m DRAWS (0 .. as many as are IN; more: BAD) all sets of m TICKETS that are IN are as likely.", () -> {
            lots(0, 0, 0, 0, 1, 1, 2, 0);
            draw(3);
            for (int m : new int[] {-1, 4, 5, 12, 13, MOST, LEAST}) {
                is("mean() " + m, x.mean(0, m, 0), NONE);
                is("mean() of all " + m, x.mean(-1, m, 1), NONE);
                is("worst() " + m, x.worst(0, m, 0), VOID);
                is("keeps() " + m, x.keeps(0, m, 0), NONE);
                is("rid() " + m, x.rid(0, m, 0), NONE);
                is("given() " + m, x.given(0, m, 2), NONE);
                is("swap() " + m, x.swap(m), BAD);
                is("cancel() " + m, x.cancel(m), BAD);
                is("syndicate() " + m, x.syndicate(m), BAD);
                is("forged() " + m, x.forged(0, m, 0), NONE);
                is("odds() " + m, x.odds(0, m, 0), NONE);
            }
            is("more() 4", x.more(0, 4 * 2000 + 999, 0), NONE);
            is("more() -1", x.more(0, -2000 + 999, 0), NONE);
            is("fairest() 4", x.fairest(41, -2), NONE);
            is("fairest() -1", x.fairest(-9, -2), NONE);
            for (int m = 0; m <= 3; m += 3) {
                is("mean() " + m, x.mean(0, m, 0), m == 0 ? 0 : 10);
                is("worst() " + m, x.worst(0, m, 1), m == 0 ? 0 : 7);
                is("more() " + m, x.more(0, m * 2000 + 999, 0), m == 0 ? 0 : 1);
                is("keeps() " + m, x.keeps(0, m, 0), m == 0 ? 1 : 0);
                is("rid() " + m, x.rid(2, m, 0), m == 0 ? 0 : 10);
                is("given() " + m, x.given(2, m, 2), 0);
                is("swap() " + m, x.swap(m), NOT);
                is("cancel() " + m, x.cancel(m), 1);
                is("fairest() " + m, x.fairest(10 * m + 1, -2), m == 0 ? 0 : 20);
                is("syndicate() " + m, x.syndicate(m), m == 0 ? 63 : 60);
                is("forged() " + m, x.forged(0, m, 0), m == 0 ? 1 : 0);
                is("odds() " + m, x.odds(7, m, 0), m == 0 ? 0 : 1);
            }
            fraction("as likely", x.mean(1, 1, 0), x.mean(1, 1, 1), 10, 3);
            fraction("as likely", x.mean(0, 2, 0), x.mean(0, 2, 1), 10, 1);
            fraction("as likely", x.odds(3, 2, 0), x.odds(3, 2, 1), 1, 3);
        });
    }
}
