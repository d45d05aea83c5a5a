/** Promises 41 to 46: letters, the vote, plans. */
public final class LettersVoteTest {
    private static void eq(String what, long got, long want) { Checks.eq(what, got, want); }

    private static void letters() {
        TicketShore x = new TicketShore();
        x.ship(0, 5);
        x.man(0, 0, 0, 20, 0);
        x.man(0, 0, 0, 20, 0);
        int[][] bad = {{-1, 0, 1}, {2, 0, 1}, {0, -1, 1}, {0, 2, 1}, {0, 0, 0}, {0, 0, 100}};
        for (int[] a : bad) eq("41: bad", x.letter(a[0], a[1], a[2]), Checks.BAD);
        eq("41: to one aboard", x.letter(0, 0, 1), 0);
        eq("41: from one aboard", x.letter(1, 1, 3), 1);
        eq("41: long", x.letter(1, 0, 99), 2);
        x.run(1);
        eq("42: not come in the week ahead", x.letterTold(0, 3), 0);
        x.run(1);
        eq("42: came", x.letterTold(0, 3), 1);
        eq("42: not late", x.letterTold(0, 4), 0);
        x.dies(0);
        x.dies(1);
        eq("42: not late by a later death", x.letterTold(0, 4), 0);
        eq("42: 0 till it came", x.letterTold(1, 4), 0);
        eq("41: from a dead one", x.letter(1, 1, 1), Checks.NO);
        eq("41: bad ahead of no", x.letter(1, 1, 0), Checks.BAD);
        eq("41: to a dead one", x.letter(1, 0, 1), 3);
        x.run(2);
        int[] from = {1, 1, 3, 1, 1};
        for (int i = 0; i < 5; i++) eq("42: from him, late, " + i, x.letterTold(1, i), from[i]);
        int[] to = {1, 0, 3, 1, 1};
        for (int i = 0; i < 5; i++) eq("42: to him, late, " + i, x.letterTold(3, i), to[i]);
        TicketShore y = Checks.landed(2);
        y.letter(1, 0, 1);
        y.letter(0, 1, 1);
        y.dies(1);
        y.run(2);
        eq("42: its own man is dead", y.letterTold(0, 4), 1);
        eq("42: its own man lives", y.letterTold(1, 4), 0);
        eq("42: due", x.letterTold(2, 2), 99);
        eq("42: far", x.letterTold(2, 3), 0);
        for (int i = 4; i < 20; i++) eq("41: number", x.letter(0, 0, 1), i);
        eq("41: full", x.letter(0, 0, 1), Checks.FULL);
        eq("41: no ahead of full", x.letter(0, 1, 1), Checks.NO);
        eq("42: letter", x.letterTold(20, 0), Checks.BAD);
        eq("42: letter below", x.letterTold(-1, 0), Checks.BAD);
        eq("42: what", x.letterTold(0, 5), Checks.BAD);
        eq("42: what below", x.letterTold(0, -1), Checks.BAD);
    }

    private static void vote() {
        TicketShore x = new TicketShore();
        int[][] bad = {{-1, 0, 0}, {7, 0, 0}, {0, -1, 0}, {0, 3, 0}, {0, 0, -1}, {0, 0, 100}, {0, 1, 256}, {0, 2, -1}, {0, 2, 256}};
        for (int[] a : bad) eq("43: bad", x.party(a[0], a[1], a[2]), Checks.BAD);
        eq("44: no votes", x.carries(1), Checks.NONE);
        eq("43: was", x.party(6, 0, 99), 0);
        eq("43: was 99", x.party(6, 0, 10), 99);
        eq("43: wanted", x.party(6, 1, 255), 0);
        eq("43: wanted was", x.party(6, 1, 0b11000), 255);
        eq("43: not had", x.party(6, 2, 255), 0);
        eq("43: not had was", x.party(6, 2, 1), 255);
        eq("44: all that it wants", x.carries(10), 0b11000);
        x.party(0, 0, 10);
        x.party(0, 1, 0b100);
        x.party(1, 0, 10);
        x.party(1, 1, 0b10);
        eq("44: the fewest, of several the least", x.carries(10), 0b10);
        eq("44: two", x.carries(20), 0b110);
        eq("44: all", x.carries(30), 0b11110);
        eq("44: more than there are", x.carries(31), Checks.NONE);
        x.party(2, 0, 5);
        x.party(2, 2, 0b11000);
        eq("44: what it will not have", x.carries(35), Checks.NONE);
        eq("44: that bars nothing here", x.carries(25), 0b110);
        eq("44: nothing given", x.carries(5), 0);
        x.party(3, 0, 50);
        x.party(3, 1, 1);
        x.party(3, 2, 1);
        eq("44: wants what it will not have", x.carries(40), Checks.NONE);
        eq("43: to 0", x.party(3, 0, 0), 50);
        eq("43: from 0", x.party(3, 0, 99), 0);
        x.party(3, 1, 255);
        x.party(3, 2, 0);
        eq("44: all clauses", x.carries(99), 255);
        eq("44: below", x.carries(0), Checks.BAD);
        eq("44: above", x.carries(1000), Checks.BAD);
        eq("44: greatest", x.carries(999), Checks.NONE);
    }

    private static void plans() {
        TicketShore x = new TicketShore();
        int[][] bad = {{-1, 0, 0, 0}, {6, 0, 0, 0}, {0, -1, 0, 0}, {0, 3, 0, 0}, {0, 0, -1, 0}, {0, 0, 2, 0}, {0, 0, 0, -1}, {0, 0, 0, 100}};
        for (int[] a : bad) eq("45: bad", x.way(a[0], a[1], a[2], a[3]), Checks.BAD);
        eq("46: nothing told", x.plan(6, 0, 2), 0);
        eq("45: was", x.way(0, 0, 0, 99), 0);
        eq("45: was 99", x.way(0, 0, 0, 9), 99);
        eq("45: to 0", x.way(0, 0, 0, 0), 9);
        eq("45: from 0", x.way(0, 0, 0, 9), 0);
        eq("45: food", x.way(0, 0, 1, 1), 0);
        x.way(0, 1, 0, 4);
        x.way(0, 1, 1, 5);
        x.way(0, 2, 0, 4);
        x.way(0, 2, 1, 4);
        for (int way = 0; way < 3; way++) {
            x.way(1, way, 0, 3 - way);
            x.way(1, way, 1, 2 * way);
        }
        eq("46: no food", x.plan(1, 0, 0), Checks.NONE);
        eq("46: none for any what", x.plan(1, 0, 2), Checks.NONE);
        eq("46: falls", x.plan(2, 5, 0), 7);
        eq("46: food of the first", x.plan(2, 5, 1), 5);
        eq("46: ways of the first", x.plan(2, 5, 2), 3);
        eq("46: food", x.plan(2, 4, 1), 4);
        eq("46: ways", x.plan(2, 4, 2), 6);
        eq("46: of several the first", x.plan(2, 99, 2), 1 * 3 + 2);
        eq("46: its food", x.plan(2, 99, 1), 9);
        eq("46: just the food", x.plan(2, 8, 2), 2 * 3 + 2);
        eq("46: one year", x.plan(1, 4, 2), 2);
        for (int year = 2; year < 6; year++) for (int way = 0; way < 3; way++) x.way(year, way, 1, way == 2 ? 0 : 99);
        eq("46: six years", x.plan(6, 8, 2), ((((8 * 3 + 2) * 3 + 2) * 3 + 2) * 3) + 2);
        for (int way = 0; way < 3; way++) for (int year = 0; year < 6; year++) x.way(year, way, 1, 99);
        eq("46: all too dear", x.plan(6, 593, 0), Checks.NONE);
        eq("46: just enough", x.plan(6, 594, 1), 594);
        int[][] wrong = {{0, 0, 0}, {7, 0, 0}, {1, -1, 0}, {1, 1000, 0}, {1, 0, -1}, {1, 0, 3}};
        for (int[] a : wrong) eq("46: bad", x.plan(a[0], a[1], a[2]), Checks.BAD);
        eq("46: most food", x.plan(1, 999, 1), 99);
    }

    public static void main(String[] args) {
        letters();
        vote();
        plans();
        Checks.end("LettersVoteTest");
    }
}
