/** Promises 1 to 11: a new object, ships, men, masters, stores. */
public final class ShipsMenTest {
    private static void eq(String what, long got, long want) { Checks.eq(what, got, want); }

    private static void newObject() {
        TicketShore x = new TicketShore();
        for (int what = 0; what <= 22; what++) eq("1: count " + what, x.count(what), 0);
        for (int place = 0; place < 6; place++) {
            eq("1: store", x.store(place, 0), 0);
            eq("1: hungry", x.hungry(place), 0);
        }
        eq("1: no image", x.again(), Checks.NO);
        eq("1: nobody", x.told(0, 0), Checks.BAD);
        eq("1: no text", x.why(0), Checks.NONE);
        eq("1: musters are missing", x.read(3, 0), Checks.NOTHING);
    }

    private static void ship() {
        TicketShore x = new TicketShore();
        eq("2: place below", x.ship(-1, 1), Checks.BAD);
        eq("2: place above", x.ship(6, 1), Checks.BAD);
        eq("2: the open week", x.ship(0, 0), Checks.BAD);
        eq("2: beyond", x.ship(0, 2000), Checks.BAD);
        eq("2: last week", x.ship(5, 1999), 0);
        x.run(3);
        eq("2: open week later", x.ship(0, 3), Checks.BAD);
        for (int i = 1; i < 8; i++) eq("2: number", x.ship(0, 4), i);
        eq("2: full", x.ship(0, 4), Checks.FULL);
        eq("2: bad ahead of full", x.ship(0, 3), Checks.BAD);
        eq("2: count", x.count(0), 8);
    }

    private static void man() {
        TicketShore x = new TicketShore();
        eq("3: no ship", x.man(0, 0, 0, 20, 0), Checks.BAD);
        x.ship(2, 2);
        int[][] bad = {{-1, 0, 0, 20, 0}, {1, 0, 0, 20, 0}, {0, -1, 0, 20, 0}, {0, 8, 0, 20, 0}, {0, 0, -1, 20, 0},
            {0, 0, 6, 20, 0}, {0, 0, 0, 9, 0}, {0, 0, 0, 71, 0}, {0, 0, 0, 20, -1}, {0, 0, 0, 20, 256}};
        for (int[] a : bad) eq("3: bad", x.man(a[0], a[1], a[2], a[3], a[4]), Checks.BAD);
        eq("3: least", x.man(0, 0, 0, 10, 0), 0);
        eq("3: greatest", x.man(0, 7, 5, 70, 255), 1);
        x.run(2);
        eq("3: in the week it lands", x.man(0, 1, 1, 30, 1), 2);
        eq("3: since then", x.told(2, 7), 2);
        for (int i = 3; i < 14; i++) eq("3: number", x.man(0, 1, 1, 30, 1), i);
        eq("3: full", x.man(0, 1, 1, 30, 1), Checks.FULL);
        eq("3: all aboard", x.count(3), 14);
        x.run(1);
        eq("3: landed, ahead of full", x.man(0, 1, 1, 30, 1), Checks.BAD);
        eq("3: none aboard", x.count(3), 0);
        eq("3: he landed too", x.told(2, 10), 2);
    }

    private static void term() {
        TicketShore x = new TicketShore();
        x.ship(0, 1);
        x.man(0, 0, 0, 20, 0);
        x.man(0, 0, 0, 20, 0);
        eq("4: at first", x.term(0, 999), 364);
        eq("4: was", x.term(0, 1), 999);
        eq("4: below", x.term(0, 0), Checks.BAD);
        eq("4: above", x.term(0, 1000), Checks.BAD);
        eq("4: nobody", x.term(2, 5), Checks.BAD);
        x.dies(1);
        x.run(1);
        eq("4: not landed yet", x.term(0, 2), 1);
        x.run(1);
        eq("4: landed", x.term(0, 2), Checks.NO);
        eq("4: bad ahead of no", x.term(0, 0), Checks.BAD);
        eq("4: who died aboard never landed", x.term(1, 7), 364);
        eq("4: bound behind one week", x.told(0, 5), 1);
        x.run(1);
        eq("4: free behind two", x.told(0, 5), 6);
        eq("4: since the week that went by", x.told(0, 7), 2);
        eq("6: free", x.as(0, 6), 0);
        eq("6: free is not under bound", x.as(0, 1), Checks.KIND);
        eq("6: but a state", x.as(0, 0), 0);
    }

    private static void told() {
        TicketShore x = new TicketShore();
        x.run(1);
        x.ship(4, 2);
        x.man(0, 3, 2, 33, 77);
        int[] aboard = {3, 2, 33, 77, Checks.NONE, 1, 0, 1, 0, 0, Checks.NONE, 0};
        for (int i = 0; i < 12; i++) eq("5: aboard " + i, x.told(0, i), aboard[i]);
        x.run(2);
        x.mark(0, 1);
        x.mark(0, 1);
        x.voids(0, 1);
        int[] ashore = {3, 2, 33, 77, 4, 1, 0, 2, 1, 0, 2, 0};
        for (int i = 0; i < 12; i++) eq("5: ashore " + i, x.told(0, i), ashore[i]);
        x.runs(0);
        int[] run = {3, 2, 33, 77, Checks.NONE, 7, 4, 3, 1, 0, 2, 0};
        for (int i = 0; i < 12; i++) eq("5: run " + i, x.told(0, i), run[i]);
        x.dies(0);
        run[11] = 1;
        for (int i = 0; i < 12; i++) eq("5: dead " + i, x.told(0, i), run[i]);
        eq("5: what", x.told(0, 12), Checks.BAD);
        eq("5: what below", x.told(0, -1), Checks.BAD);
        eq("5: man", x.told(1, 0), Checks.BAD);
        eq("5: man below", x.told(-1, 0), Checks.BAD);
    }

    private static void as() {
        TicketShore x = Checks.landed(6);
        x.master(0, 63, 9, 1);
        x.master(0, 63, 9, 1);
        Checks.law(x, "ticket 1", 0);
        Checks.law(x, "pardon 1", 0);
        x.assign(1, 1);
        x.ticket(2);
        x.pardon(3, 1);
        x.runs(4);
        x.runs(5);
        x.caught(5);
        int no = Checks.KIND;
        int[][] due = {
            {0, 0, no, no, no, no, no, no}, {1, 1, 1, no, no, no, no, no}, {0, 0, no, no, 0, no, no, no},
            {1, no, no, no, no, 1, no, no}, {0, 0, no, no, no, no, no, 0}, {6, 6, no, 6, no, no, no, no}};
        for (int man = 0; man < 6; man++) {
            for (int kind = 0; kind < 8; kind++) eq("6: man " + man + " as " + kind, x.as(man, kind), due[man][kind]);
        }
        eq("6: kind above", x.as(0, 8), Checks.BAD);
        eq("6: kind below", x.as(0, -1), Checks.BAD);
        eq("6: man", x.as(6, 1), Checks.BAD);
        x.dies(1);
        eq("6: his state stays", x.as(1, 2), 1);
    }

    private static void dies() {
        TicketShore x = Checks.landed(2);
        x.master(0, 63, 1, 10);
        x.assign(0, 0);
        eq("7: no hand", x.assign(1, 0), Checks.NO);
        eq("7: nobody", x.dies(2), Checks.BAD);
        eq("7: dies", x.dies(0), 1);
        eq("7: is", x.dies(0), Checks.NO);
        eq("7: has none", x.has(0, 4), 0);
        eq("7: state stays", x.told(0, 5), 2);
        eq("7: a hand is free", x.assign(1, 0), 1);
        x.run(1);
        eq("7: the dead earn nothing", x.told(0, 9), 0);
        eq("7: the living do", x.told(1, 9), 10);
        TicketShore y = new TicketShore();
        y.ship(0, 1);
        y.man(0, 0, 0, 20, 0);
        y.dies(0);
        y.run(3);
        eq("7: the dead do not land", y.told(0, 10), Checks.NONE);
        eq("7: nor are aboard", y.count(3), 0);
        eq("7: nor of a kind", y.count(5), 0);
        eq("7: but dead", y.count(2), 1);
    }

    private static void masters() {
        TicketShore x = new TicketShore();
        int[][] bad = {{-1, 0, 0, 0}, {6, 0, 0, 0}, {0, -1, 0, 0}, {0, 64, 0, 0}, {0, 0, -1, 0}, {0, 0, 10, 0},
            {0, 0, 0, -1}, {0, 0, 0, 100}};
        for (int[] a : bad) eq("8: bad", x.master(a[0], a[1], a[2], a[3]), Checks.BAD);
        eq("8: least", x.master(0, 0, 0, 0), 0);
        eq("8: greatest", x.master(5, 63, 9, 99), 1);
        for (int i = 2; i < 6; i++) eq("8: number", x.master(1, 1, 1, 1), i);
        eq("8: full", x.master(1, 1, 1, 1), Checks.FULL);
        eq("8: bad ahead of full", x.master(6, 1, 1, 1), Checks.BAD);
        int[] due = {5, 63, 9, 99, 0};
        for (int i = 0; i < 5; i++) eq("9: what " + i, x.has(1, i), due[i]);
        eq("9: what", x.has(1, 5), Checks.BAD);
        eq("9: what below", x.has(1, -1), Checks.BAD);
        eq("9: master", x.has(6, 0), Checks.BAD);
        eq("9: master below", x.has(-1, 0), Checks.BAD);
    }

    private static void food() {
        TicketShore x = Checks.landed(3);
        eq("10: place", x.store(6, 0), Checks.BAD);
        eq("10: place below", x.store(-1, 0), Checks.BAD);
        eq("10: above", x.store(0, 10000), Checks.BAD);
        eq("10: below", x.store(0, -1), Checks.BAD);
        eq("10: was", x.store(0, 9999), 0);
        eq("10: was greatest", x.store(0, 11), 9999);
        eq("11: as they landed there was less", x.hungry(0), 1);
        x.runs(2);
        x.caught(2);
        x.run(1);
        eq("10: two eat 2, the ironed 1", x.store(0, 5), 6);
        eq("11: enough", x.hungry(0), 0);
        x.run(1);
        eq("10: just enough", x.store(0, 4), 0);
        eq("11: just enough", x.hungry(0), 0);
        x.run(1);
        eq("10: all there is", x.store(0, 9), 0);
        eq("11: less", x.hungry(0), 1);
        eq("11: elsewhere nobody eats", x.hungry(1), 0);
        x.dies(0);
        x.dies(1);
        x.runs(2);
        x.run(1);
        eq("10: the dead and the run eat nothing", x.store(0, 0), 9);
        eq("11: place", x.hungry(6), Checks.BAD);
        eq("11: place below", x.hungry(-1), Checks.BAD);
    }

    public static void main(String[] args) {
        newObject();
        ship();
        man();
        term();
        told();
        as();
        dies();
        masters();
        food();
        Checks.end("ShipsMenTest");
    }
}
