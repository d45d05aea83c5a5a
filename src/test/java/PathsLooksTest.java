/** Promises 31 to 40: paths, looks, the assigning, sentences. */
public final class PathsLooksTest {
    private static void eq(String what, long got, long want) { Checks.eq(what, got, want); }

    private static void paths() {
        TicketShore x = new TicketShore();
        int[][] bad = {{-1, 0, 1}, {6, 0, 1}, {0, -1, 1}, {0, 6, 1}, {2, 2, 1}, {0, 1, -1}, {0, 1, 100}};
        for (int[] a : bad) eq("31: bad", x.path(a[0], a[1], a[2]), Checks.BAD);
        eq("31: none at first", x.path(0, 1, 99), 0);
        eq("31: both ways", x.path(1, 0, 14), 99);
        eq("31: and back", x.path(0, 1, 14), 14);
        eq("32: his own", x.reach(5, 0), 32);
        eq("32: too far", x.reach(0, 1), 1);
        eq("32: just", x.reach(0, 2), 3);
        x.path(1, 2, 7);
        x.path(0, 2, 99);
        eq("32: by way of another", x.reach(0, 3), 7);
        x.path(2, 3, 1);
        x.path(3, 4, 1);
        x.path(4, 5, 5);
        eq("32: one mile short", x.reach(0, 3), 7);
        eq("32: all the way round", x.reach(0, 4), 63);
        eq("32: from the far end", x.reach(5, 1), 60);
        eq("32: all the way back", x.reach(5, 4), 63);
        x.path(3, 4, 0);
        eq("32: cut", x.reach(0, 99), 15);
        eq("32: place", x.reach(6, 1), Checks.BAD);
        eq("32: place below", x.reach(-1, 1), Checks.BAD);
        eq("32: food", x.reach(0, 100), Checks.BAD);
        eq("32: food below", x.reach(0, -1), Checks.BAD);
    }

    private static TicketShore crowd() {
        TicketShore x = new TicketShore();
        x.ship(0, 9);
        x.man(0, 1, 2, 30, 0b0011);
        x.man(0, 1, 3, 32, 0b0110);
        x.man(0, 2, 2, 33, 0b1110);
        x.man(0, 2, 3, 40, 0b1110);
        return x;
    }

    private static void looks() {
        TicketShore x = crowd();
        int[][] bad = {{-1, 0, 0, 0}, {9, 0, 0, 0}, {0, -1, 0, 0}, {0, 7, 0, 0}, {0, 0, -1, 0}, {0, 0, 71, 0},
            {0, 0, 0, -1}, {0, 0, 0, 256}};
        for (int[] a : bad) eq("33: bad", x.look(a[0], a[1], a[2], a[3]), Checks.BAD);
        int[][] looks = {{8, 6, 0, 0}, {1, 6, 0, 0}, {8, 3, 0, 0}, {8, 6, 31, 0}, {8, 6, 30, 0}, {8, 6, 0, 0b1010},
            {8, 6, 70, 0}, {1, 2, 28, 1}, {8, 6, 1, 255}, {1, 2, 32, 0}};
        int[] men = {15, 3, 10, 7, 3, 12, 0, 1, 0, 1};
        for (int i = 0; i < 10; i++) eq("33: number", x.look(looks[i][0], looks[i][1], looks[i][2], looks[i][3]), i);
        eq("33: full", x.look(8, 6, 0, 0), Checks.FULL);
        eq("33: bad ahead of full", x.look(9, 6, 0, 0), Checks.BAD);
        for (int i = 0; i < 10; i++) eq("34: who may be " + i, x.may(i, 0), men[i]);
        eq("34: sure", x.may(7, 1), 0);
        eq("34: of two not", x.may(1, 1), Checks.NONE);
        eq("34: of none not", x.may(6, 1), Checks.NONE);
        // Of the four, bit 0 parts 1 : 3, bit 1 4 : 0, bit 2 3 : 1, bit 3 2 : 2.
        eq("34: parts most", x.may(0, 2), 3);
        eq("34: of several the least", x.may(1, 2), 0);
        eq("34: parts by 2 : 1", x.may(3, 2), 0);
        eq("34: alike men", x.may(5, 2), 0);
        eq("34: one", x.may(7, 2), Checks.NONE);
        eq("34: none", x.may(6, 2), Checks.NONE);
        eq("34: what", x.may(0, 3), Checks.BAD);
        eq("34: what below", x.may(0, -1), Checks.BAD);
        eq("34: look", x.may(10, 0), Checks.BAD);
        eq("34: look below", x.may(-1, 0), Checks.BAD);
        eq("35: sure of one man", x.same(7, 9), 2);
        eq("35: the same two may be both", x.same(1, 4), 1);
        eq("35: only one is sure", x.same(1, 7), 1);
        eq("35: none", x.same(5, 7), 0);
        eq("35: nobody may be either", x.same(6, 8), 0);
        eq("35: one", x.same(3, 3), Checks.BAD);
        eq("35: above", x.same(0, 10), Checks.BAD);
        eq("35: below", x.same(-1, 0), Checks.BAD);
        x.dies(0);
        eq("34: the dead, too", x.may(7, 1), 0);
        x.man(0, 1, 2, 30, 1);
        eq("34: as men are told", x.may(7, 0), 17);
        TicketShore y = new TicketShore();
        y.ship(0, 9);
        y.man(0, 0, 0, 20, 127);
        y.man(0, 0, 0, 20, 255);
        eq("33: deed and trade 0", y.look(0, 0, 20, 255), 0);
        eq("34: has all that was seen", y.may(0, 1), 1);
        y.look(0, 0, 22, 0);
        eq("34: the highest bit parts", y.may(1, 2), 7);
        eq("35: no more sure", x.same(7, 9), 1);
    }

    /** Men 0 and 1 could go to 0 alone or to both; man 0 must leave master 0 to man 1. */
    private static void leaving() {
        TicketShore x = new TicketShore();
        x.ship(0, 1);
        x.man(0, 0, 0, 20, 0);
        x.man(0, 0, 1, 20, 0);
        x.man(0, 0, 5, 20, 0);
        x.run(2);
        x.master(0, 3, 1, 1);
        x.master(0, 1, 1, 1);
        x.master(1, 63, 9, 1);
        eq("37: most", x.most(), 2);
        eq("36: he leaves it", x.goes(0), 1);
        eq("36: to him", x.goes(1), 0);
        eq("36: not wanted there", x.goes(2), Checks.NONE);
        eq("36: nobody", x.goes(3), Checks.BAD);
        eq("36: below", x.goes(-1), Checks.BAD);
        eq("36: nothing is changed", x.told(0, 5), 1);
        x.assign(0, 0);
        eq("36: assigned", x.goes(0), Checks.NONE);
        eq("36: no hand left", x.goes(1), Checks.NONE);
        eq("37: none", x.most(), 0);
        x.dies(0);
        eq("36: the hand is free again", x.goes(1), 0);
        eq("36: dead", x.goes(0), Checks.NONE);
    }

    private static void assigning() {
        eq("37: nobody", new TicketShore().most(), 0);
        TicketShore x = Checks.landed(14);
        x.master(0, 63, 9, 1);
        x.master(0, 63, 2, 1);
        eq("37: hands together", x.most(), 11);
        eq("36: the ninth", x.goes(8), 0);
        eq("36: the tenth", x.goes(9), 1);
        eq("36: the eleventh", x.goes(10), 1);
        eq("36: none behind all", x.goes(11), Checks.NONE);
        x.runs(0);
        eq("36: one who runs", x.goes(0), Checks.NONE);
        eq("36: the others move up", x.goes(9), 0);
        eq("36: and the twelfth goes", x.goes(11), 1);
        TicketShore y = new TicketShore();
        y.ship(0, 5);
        y.man(0, 0, 0, 20, 0);
        y.master(0, 63, 9, 1);
        eq("36: aboard", y.goes(0), Checks.NONE);
        eq("37: aboard", y.most(), 0);
    }

    private static void sentences() {
        TicketShore x = new TicketShore();
        int[][] bad = {{-1, 0, 0}, {4, 0, 0}, {0, -1, 0}, {0, 8, 0}, {0, 0, -1}, {0, 0, 301}};
        for (int[] a : bad) eq("38: bad", x.sentence(a[0], a[1], a[2]), Checks.BAD);
        eq("39: none", x.mean(0, 0), Checks.NONE);
        eq("40: none", x.harsh(0), 0);
        eq("38: first", x.sentence(0, 0, 300), 0);
        eq("40: no others", x.harsh(0), 0);
        eq("38: second", x.sentence(1, 0, 0), 1);
        eq("40: twice nothing", x.harsh(0), 1);
        eq("39: of 0", x.mean(1, 0), 0);
        x.sentence(2, 5, 41);
        x.sentence(3, 5, 20);
        x.sentence(1, 5, 21);
        eq("40: their mean is cut", x.harsh(5), 4);
        x.sentence(2, 5, 40);
        eq("39: cut", x.mean(2, 5), 40);
        eq("40: just twice is not more", x.harsh(5), 0);
        eq("39: other deeds", x.mean(2, 4), Checks.NONE);
        for (int i = 6; i < 29; i++) eq("38: number", x.sentence(3, 7, 1), i);
        eq("38: the last", x.sentence(0, 7, 0), 29);
        eq("39: greatest judge and deed", x.mean(3, 7), 1);
        eq("40: greatest judge and deed", x.harsh(7), 8);
        eq("38: full", x.sentence(3, 7, 1), Checks.FULL);
        eq("38: bad ahead of full", x.sentence(3, 8, 1), Checks.BAD);
        eq("39: judge", x.mean(4, 0), Checks.BAD);
        eq("39: judge below", x.mean(-1, 0), Checks.BAD);
        eq("39: deed", x.mean(0, 8), Checks.BAD);
        eq("39: deed below", x.mean(0, -1), Checks.BAD);
        eq("40: deed", x.harsh(8), Checks.BAD);
        eq("40: deed below", x.harsh(-1), Checks.BAD);
    }

    public static void main(String[] args) {
        paths();
        looks();
        leaving();
        assigning();
        sentences();
        Checks.end("PathsLooksTest");
    }
}
