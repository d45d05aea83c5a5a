/** Promises 12 to 17: the tape, texts and rules. */
public final class TextsTest {
    private static void eq(String what, long got, long want) { Checks.eq(what, got, want); }

    private static void tape() {
        TicketShore x = new TicketShore();
        for (int i = 1; i <= 8; i++) eq("12: bytes", x.feed(-1, 0, i), 12 * i);
        eq("12: full", x.feed(1, 2, 3), Checks.FULL);
        eq("12: nothing changed", x.count(20), 96);
        eq("13: above", x.trim(97), Checks.BAD);
        eq("13: below", x.trim(-1), Checks.BAD);
        eq("13: all", x.trim(96), 96);
        eq("13: fewer", x.trim(85), 85);
        eq("12: still too many", x.feed(1, 2, 3), Checks.FULL);
        eq("13: 84", x.trim(84), 84);
        eq("12: just room", x.feed(1, 2, 3), 96);
        eq("13: none", x.trim(0), 0);
        eq("12: highest byte first", Checks.law(x, "stop 1", 0), 0);
    }

    /** Each with the place of its FAULT. */
    private static void faults() {
        Object[][] all = {
            {"", 0}, {"   ", 3}, {"tick", 0}, {"tickets 1", 0}, {"  Ticket 1", 2}, {"ticket", 6}, {"ticket  ", 8},
            {"ticket1", 6}, {"ticketw", 0}, {"ticket w w", 9}, {"ticket 1 2", 9}, {"ticket 1w", 8}, {"ticket w1", 8},
            {"ticket 12345", 7}, {"ticket 1+00001", 9}, {"ticket ww", 7}, {"ticket o", 7}, {"pardon e", 7},
            {"irons w", 6}, {"irons k", 6}, {"fear t", 5}, {"fear o", 5}, {"stop m", 5}, {"stop w", 5},
            {"ticket )", 7}, {"ticket ()", 8}, {"ticket (w", 9}, {"ticket (w ", 10}, {"ticket w)", 8},
            {"ticket w<m<t", 10}, {"ticket w=m>t", 10}, {"ticket w<m+1=t", 12}, {"ticket w+", 9}, {"ticket +w", 7},
            {"ticket -1", 7}, {"ticket w&|m", 9}, {"ticket !", 8}, {"ticket w!", 8}, {"ticket w !m", 9},
            {"ticket (w)(m)", 10}, {"ticket (w)m", 10}, {"ticket 1(w)", 8}, {"ticket w\tm", 8}, {"ticket\tw", 6},
            {"ticket w\u0000", 8}, {"ticketz 1", 0}, {"zicket 1", 0},
            {"ticket w\u00ff", 8}, {"ticket \u0000", 7}, {"ticket w pardon m", 9}, {"ticket w<=m", 9},
            {"ticket !!!!!!!!!w", 15}, {"ticket (((((((((w)))))))))", 15}, {"stop w ticket", 5},
            {"ticket !(!(!(!(!(!(!(!(!w))))))))", 23}, {"ticket !!!!(!!!!(!w))", 17}, {"ticket 1`2", 8}, {"ticket {", 7},
        };
        TicketShore x = new TicketShore();
        for (Object[] one : all) {
            eq("14: fault of '" + one[0] + "'", Checks.law(x, (String) one[0], 0), -100 - (Integer) one[1]);
            eq("14: the tape is used up", x.count(20), 0);
        }
        eq("14: none was taken", x.count(14), 0);
    }

    private static void taken() {
        String[] all = {"ticket(w)", "  ticket   w  ", "ticket !!!!!!!!w", "ticket ((((((((w))))))))",
            "ticket !(!(!(!(!(!(!(!(w))))))))", "ticket !!!!!!!!w+!!!!!!!!m+((((((((t))))))))", "ticket 0000", "ticket w<m&m<t",
            "ticket (w<m)<t", "ticket !w", "irons o+m", "fear k+m+p", "stop e+d"};
        TicketShore x = new TicketShore();
        for (int i = 0; i < all.length; i++) eq("14: '" + all[i] + "'", Checks.law(x, all[i], 0), i);
        eq("14: the last", Checks.law(x, "pardon 1", 1999), 13);
        eq("14: full", Checks.law(x, "pardon 1", 0), Checks.FULL);
        eq("14: the tape is used up", x.count(20), 0);
        eq("14: a fault ahead of full", Checks.law(x, "pardon", 0), -106);
        eq("14: bad ahead of a fault", Checks.law(x, "pardon", 2000), Checks.BAD);
        Checks.tape(x, "pardon 1");
        eq("14: bad below", x.text(-1), Checks.BAD);
        eq("14: used up by that, too", x.count(20), 0);
        eq("14: of 96 bytes", Checks.law(new TicketShore(), "stop e" + "+0".repeat(45), 0), 0);
    }

    private static void of() {
        TicketShore x = new TicketShore();
        Checks.law(x, "stop e*(d+10)/!3", 7);
        Checks.law(x, "fear 5", 1999);
        eq("15: key", x.of(0, 0), 4);
        eq("15: week", x.of(0, 1), 7);
        eq("15: parts", x.of(0, 2), 4);
        eq("15: fear", x.of(1, 0), 3);
        eq("15: last week", x.of(1, 1), 1999);
        eq("15: one", x.of(1, 2), 1);
        eq("15: text", x.of(2, 0), Checks.BAD);
        eq("15: text below", x.of(-1, 0), Checks.BAD);
        eq("15: what", x.of(0, 3), Checks.BAD);
        eq("15: what below", x.of(0, -1), Checks.BAD);
        String[] keys = {"ticket", "pardon", "irons", "fear", "stop"};
        for (int i = 0; i < 5; i++) eq("15: " + keys[i], x.of(Checks.law(x, keys[i] + " 1", 0), 0), i);
    }

    private static void why() {
        TicketShore x = new TicketShore();
        eq("16: none", x.why(2), Checks.NONE);
        Checks.law(x, "irons 1", 3);
        eq("16: not in force yet", x.why(2), Checks.NONE);
        Checks.law(x, "irons 2", 1);
        Checks.law(x, "irons 3", 0);
        Checks.law(x, "irons 4", 0);
        eq("16: of two the greater number", x.why(2), 3);
        x.run(1);
        eq("16: the latest week", x.why(2), 1);
        eq("16: it rules", x.rules(2, 0, 0, 0), 2);
        x.run(1);
        eq("16: still", x.why(2), 1);
        x.run(1);
        eq("16: the latest of all", x.why(2), 0);
        eq("16: other keys", x.why(0), Checks.NONE);
        eq("16: above", x.why(5), Checks.BAD);
        eq("16: below", x.why(-1), Checks.BAD);
    }

    private static void unwritten() {
        TicketShore x = new TicketShore();
        eq("17: ticket at 208", x.rules(0, 208, 0, 0), 0);
        eq("17: ticket at 209", x.rules(0, 209, 5, 5), 1);
        eq("17: pardon", x.rules(1, 999, 0, 0), 0);
        eq("17: irons", x.rules(2, 3, 9, 0), 4);
        eq("17: fear", x.rules(3, 1, 9, 0), 0);
        eq("17: stop", x.rules(4, 9, 9, 0), 0);
        eq("17: above", x.rules(5, 0, 0, 0), Checks.BAD);
        eq("17: below", x.rules(-1, 0, 0, 0), Checks.BAD);
    }

    private static int value(String e, int w, int m, int t) {
        TicketShore x = new TicketShore();
        Checks.law(x, "ticket " + e, 0);
        return x.rules(0, w, m, t);
    }

    private static void worth() {
        eq("17: names in their order", value("w*100+m*10+t", 1, 2, 3), 123);
        eq("17: loosest is or", value("1|0&0", 0, 0, 0), 1);
        eq("17: and ahead of test", value("2&3=3", 0, 0, 0), 1);
        eq("17: test behind sum", value("1+2=3", 0, 0, 0), 1);
        eq("17: sums to the left", value("9-3-2", 0, 0, 0), 4);
        eq("17: terms to the left", value("80/4*2", 0, 0, 0), 40);
        eq("17: terms ahead of sums", value("2+3*4", 0, 0, 0), 14);
        eq("17: brackets", value("(2+3)*4", 0, 0, 0), 20);
        eq("17: brackets end", value("2*(3)-4", 0, 0, 0), 2);
        eq("17: or within brackets", value("(2|0)*3", 0, 0, 0), 3);
        eq("17: not of brackets", value("!(w|m)+4", 0, 1, 0), 4);
        eq("17: both bind alike", value("2*7/4", 0, 0, 0), 3);
        eq("17: not binds one part", value("!w+5", 7, 0, 0), 5);
        eq("17: not not", value("!!w", 7, 0, 0), 1);
        eq("17: and gives 1", value("6&9", 0, 0, 0), 1);
        eq("17: or gives 1", value("0|9", 0, 0, 0), 1);
        eq("17: or gives 0", value("0|0", 0, 0, 0), 0);
        eq("17: less", value("w<m", 1, 2, 0), 1);
        eq("17: not less", value("w<m", 2, 2, 0), 0);
        eq("17: more", value("w>m", 3, 2, 0), 1);
        eq("17: tests among negatives", value("0-w<0-m", 3, 2, 0), 1);
        eq("17: by 0", value("5/0", 0, 0, 0), 0);
        eq("17: cut towards 0", value("(0-7)/2", 0, 0, 0), -3);
        eq("17: wraps", value("w+1", Integer.MAX_VALUE, 0, 0), Integer.MIN_VALUE);
        eq("17: product wraps", value("w*w", 65536, 0, 0), 0);
        eq("17: least by -1", value("w/m", Integer.MIN_VALUE, -1, 0), Integer.MIN_VALUE);
        eq("17: ticket is not held", value("0-w", 5, 0, 0), -5);
        TicketShore x = new TicketShore();
        Checks.law(x, "ticket !w", 0);
        eq("17: a not", x.rules(0, 5, 0, 0), 0);
        Checks.law(x, "ticket (w*", 0);
        Checks.law(x, "ticket w", 0);
        eq("17: nothing is left of what was read ahead", x.rules(0, 5, 0, 0), 5);
    }

    private static int held(String law, int key, int a, int b, int c) {
        TicketShore x = new TicketShore();
        Checks.law(x, law, 0);
        return x.rules(key, a, b, c);
    }

    private static void held() {
        eq("17: irons above", held("irons 9999", 2, 0, 0, 0), 99);
        eq("17: irons below", held("irons 0-1", 2, 0, 0, 0), 0);
        eq("17: irons o, m", held("irons o*10+m", 2, 3, 4, 9), 34);
        eq("17: fear above", held("fear 101", 3, 0, 0, 0), 100);
        eq("17: fear below", held("fear 0-9", 3, 0, 0, 0), 0);
        eq("17: fear k, m, p", held("fear k*20+m*5+p", 3, 1, 2, 4), 34);
        eq("17: stop above", held("stop e+1", 4, 7, 0, 0), 7);
        eq("17: stop below", held("stop 0-1", 4, 7, 0, 0), 0);
        eq("17: stop e, d", held("stop e-d", 4, 70, 4, 0), 66);
        eq("17: pardon is not held", held("pardon 9999*w", 1, 3, 0, 0), 29997);
        eq("17: stop of less than nothing", held("stop 3", 4, -2, 0, 0), 0);
    }

    public static void main(String[] args) {
        tape();
        faults();
        taken();
        of();
        why();
        unwritten();
        worth();
        held();
        Checks.end("TextsTest");
    }
}
