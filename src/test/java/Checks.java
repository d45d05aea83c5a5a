/** Counts answers that are not the ones that are due, and ends a test as .ci/run wants it. */
final class Checks {
    static final int BAD = TicketShore.BAD, NO = TicketShore.NO, FULL = TicketShore.FULL, NONE = TicketShore.NONE,
            NOTHING = TicketShore.NOTHING, KIND = TicketShore.KIND, INDEX = TicketShore.INDEX, SIZE = TicketShore.SIZE;

    private static int right = 0, wrong = 0;

    private Checks() { }

    static void eq(String what, long got, long want) {
        if (got == want) {
            right++;
            return;
        }
        wrong++;
        System.out.println(what + " answered " + got + ", due is " + want);
    }

    static void yes(String what, boolean is) {
        eq(what, is ? 1 : 0, 1);
    }

    static void end(String test) {
        System.out.println(test + ": " + right + " passed, " + wrong + " failed");
        if (wrong != 0) System.exit(1);
    }

    /** Puts a text of bytes 0 .. 255 on THE TAPE. */
    static void tape(TicketShore x, String s) {
        int from = x.count(20);
        for (int i = 0; i < s.length(); i += 12) x.feed(four(s, i), four(s, i + 4), four(s, i + 8));
        x.trim(from + s.length());
    }

    static int four(String s, int at) {
        int v = 0;
        for (int i = at; i < at + 4; i++) v = v << 8 | (i < s.length() ? s.charAt(i) & 255 : 0);
        return v;
    }

    static int law(TicketShore x, String s, int week) {
        tape(x, s);
        return x.text(week);
    }

    /** A shore with so many men (deed and trade by number, age 20 and up) landed at place 0; week 2 is open. */
    static TicketShore landed(int men) {
        TicketShore x = new TicketShore();
        x.ship(0, 1);
        for (int i = 0; i < men; i++) x.man(0, i % 8, i % 6, 20 + i, i);
        x.run(2);
        return x;
    }
}
