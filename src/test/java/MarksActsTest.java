/** Promises 18 to 30: marks, what is due, acts, weeks that go by. */
public final class MarksActsTest {
    private static void eq(String what, long got, long want) { Checks.eq(what, got, want); }

    private static void marks() {
        TicketShore x = Checks.landed(3);
        x.ship(1, 9);
        x.man(1, 0, 0, 20, 0);
        eq("18: nobody", x.mark(4, 0), Checks.BAD);
        eq("18: offence above", x.mark(0, 4), Checks.BAD);
        eq("18: offence below", x.mark(0, -1), Checks.BAD);
        eq("18: aboard", x.mark(3, 0), Checks.NO);
        eq("18: bad ahead of no", x.mark(3, 4), Checks.BAD);
        eq("18: first", x.mark(1, 3), 0);
        eq("18: no irons", x.told(1, 5), 1);
        x.runs(2);
        eq("18: one who runs", x.mark(2, 0), 1);
        x.dies(0);
        eq("18: dead", x.mark(0, 0), Checks.NO);
        for (int i = 2; i < 40; i++) eq("18: number", x.mark(1, 2), i);
        eq("18: full", x.mark(1, 2), Checks.FULL);
        eq("18: no ahead of full", x.mark(0, 2), Checks.NO);
        int[] due = {1, 2, 3, 0};
        for (int i = 0; i < 4; i++) eq("20: what " + i, x.markTold(0, i), due[i]);
        eq("19: was not", x.voids(0, 1), 0);
        eq("19: was", x.voids(0, 1), 1);
        eq("20: void", x.markTold(0, 3), 1);
        eq("19: he has one fewer", x.told(1, 8), 38);
        eq("19: no room for all that", x.mark(1, 2), Checks.FULL);
        eq("19: back", x.voids(0, 0), 1);
        eq("19: he has it again", x.told(1, 8), 39);
        eq("19: on", x.voids(0, 2), Checks.BAD);
        eq("19: on below", x.voids(0, -1), Checks.BAD);
        eq("19: mark", x.voids(40, 0), Checks.BAD);
        eq("20: mark", x.markTold(40, 0), Checks.BAD);
        eq("20: mark below", x.markTold(-1, 0), Checks.BAD);
        eq("20: what", x.markTold(0, 4), Checks.BAD);
        eq("20: what below", x.markTold(0, -1), Checks.BAD);
    }

    private static void due() {
        TicketShore x = Checks.landed(2);
        x.ship(1, 9);
        x.man(1, 0, 0, 20, 0);
        eq("21: without a text", x.due(0), 210);
        eq("21: aboard", x.due(2), Checks.NO);
        eq("21: nobody", x.due(3), Checks.BAD);
        Checks.law(x, "ticket w>10+m*5", 0);
        Checks.law(x, "ticket 1", 5);
        eq("21: by the texts that count now", x.due(0), 12);
        x.mark(0, 1);
        x.mark(0, 1);
        eq("21: with marks", x.due(0), 22);
        eq("22: a mark moves it", x.moves(1), 5);
        x.voids(0, 1);
        eq("22: void", x.moves(0), Checks.NO);
        eq("21: one is void", x.due(0), 17);
        eq("22: nothing is changed", x.due(0), 17);
        eq("22: mark", x.moves(2), Checks.BAD);
        eq("22: mark below", x.moves(-1), Checks.BAD);
        x.runs(1);
        eq("21: one who runs", x.due(1), 12);
        x.dies(1);
        eq("21: dead", x.due(1), Checks.NO);
        x.dies(0);
        eq("22: his man is dead", x.moves(1), Checks.NO);
        TicketShore y = Checks.landed(1);
        Checks.law(y, "ticket w=600", 0);
        eq("21: the last of 600 weeks", y.due(0), 601);
        Checks.law(y, "ticket w=601", 0);
        eq("21: one too far", y.due(0), Checks.NONE);
        y.mark(0, 0);
        eq("22: none without", y.moves(0), Checks.NONE);
        Checks.law(y, "ticket w=601-m", 0);
        eq("21: with the mark", y.due(0), 601);
        eq("22: none if it were void", y.moves(0), Checks.NONE);
        Checks.law(y, "ticket t=364&w+m>5", 0);
        eq("22: earlier by a mark", y.moves(0), -1);
        Checks.law(y, "ticket 1", 0);
        eq("21: the open week", y.due(0), 2);
        eq("22: does not move", y.moves(0), 0);
    }

    private static void assign() {
        TicketShore x = new TicketShore();
        x.ship(0, 1);
        x.ship(1, 5);
        x.man(0, 0, 2, 20, 0);
        x.man(0, 0, 3, 20, 0);
        x.man(1, 0, 2, 20, 0);
        x.man(0, 0, 2, 20, 0);
        x.run(2);
        x.master(0, 4, 1, 1);
        x.master(1, 4, 9, 1);
        eq("23: nobody", x.assign(4, 0), Checks.BAD);
        eq("23: no master", x.assign(0, 2), Checks.BAD);
        eq("23: aboard", x.assign(2, 1), Checks.NO);
        eq("23: not at that place", x.assign(0, 1), Checks.NO);
        eq("23: not wanted", x.assign(1, 0), Checks.NO);
        x.run(1);
        eq("23: assigned", x.assign(0, 0), 1);
        eq("23: kind", x.told(0, 5), 2);
        eq("23: to whom", x.told(0, 6), 0);
        eq("23: since", x.told(0, 7), 3);
        eq("23: no hand free", x.assign(3, 0), Checks.NO);
        eq("23: not bound itself", x.assign(0, 1), Checks.KIND);
        eq("23: bad ahead of kind", x.assign(0, 6), Checks.BAD);
        eq("24: bound already", x.back(3), Checks.KIND);
        eq("24: nobody", x.back(-1), Checks.BAD);
        x.run(1);
        eq("24: back from", x.back(0), 0);
        eq("24: bound", x.told(0, 5), 1);
        eq("24: to nobody", x.told(0, 6), 0);
        eq("24: since", x.told(0, 7), 4);
        eq("23: the hand is free", x.assign(3, 0), 1);
        x.dies(3);
        eq("24: dead", x.back(3), Checks.NO);
        eq("23: kind ahead of dead", x.assign(3, 0), Checks.KIND);
        x.dies(0);
        eq("23: dead", x.assign(0, 0), Checks.NO);
        x.run(2);
        eq("23: by now he landed", x.assign(2, 1), 1);
        eq("24: back from another", x.back(2), 1);
    }

    private static void mercy() {
        TicketShore x = Checks.landed(6);
        x.ship(3, 50);
        x.man(1, 0, 0, 20, 0);
        x.master(0, 63, 9, 1);
        eq("25: ticket is 0", x.ticket(0), Checks.NO);
        eq("26: pardon is 0", x.pardon(0, 0), Checks.NO);
        Checks.law(x, "ticket w>1&m=0&t=364", 0);
        eq("25: too soon", x.ticket(0), Checks.NO);
        x.run(1);
        x.mark(1, 0);
        eq("25: a mark bars", x.ticket(1), Checks.NO);
        x.voids(0, 1);
        eq("25: void it does not", x.ticket(1), 1);
        eq("25: kind", x.told(1, 5), 4);
        eq("25: for the place", x.told(1, 6), 0);
        eq("25: since", x.told(1, 7), 3);
        x.assign(2, 0);
        eq("25: an assigned one", x.ticket(2), 1);
        eq("25: the hand is free", x.has(0, 4), 0);
        eq("25: has one", x.ticket(2), Checks.KIND);
        Checks.law(x, "ticket 1", 0);
        eq("25: aboard", x.ticket(6), Checks.NO);
        eq("25: nobody", x.ticket(7), Checks.BAD);
        Checks.law(x, "pardon w+m-2", 0);
        eq("26: aboard", x.pardon(6, 0), Checks.NO);
        eq("26: condition", x.pardon(0, 2), Checks.BAD);
        eq("26: condition below", x.pardon(0, -1), Checks.BAD);
        eq("26: still 0", x.pardon(0, 1), Checks.NO);
        x.mark(0, 0);
        eq("26: on a condition", x.pardon(0, 1), 1);
        eq("26: kind", x.told(0, 5), 5);
        eq("26: a", x.told(0, 6), 1);
        eq("26: has one", x.pardon(0, 0), Checks.KIND);
        eq("26: bad ahead of kind", x.pardon(0, 3), Checks.BAD);
        x.run(1);
        eq("26: of a ticket", x.pardon(1, 0), 1);
        eq("26: without", x.told(1, 6), 0);
        eq("26: since", x.told(1, 7), 4);
        x.runs(3);
        eq("26: one who runs", x.pardon(3, 0), Checks.KIND);
        eq("25: one who runs", x.ticket(3), Checks.KIND);
        x.caught(3);
        eq("25: ironed", x.ticket(3), Checks.KIND);
        eq("26: ironed", x.pardon(3, 0), 1);
        x.dies(4);
        eq("25: dead", x.ticket(4), Checks.NO);
        eq("26: dead", x.pardon(4, 0), Checks.NO);
    }

    private static void running() {
        TicketShore x = new TicketShore();
        x.ship(2, 1);
        x.ship(2, 90);
        x.man(0, 0, 0, 20, 0);
        x.man(0, 0, 0, 20, 0);
        x.man(1, 0, 0, 20, 0);
        x.run(2);
        eq("27: aboard", x.runs(2), Checks.NO);
        eq("27: nobody", x.runs(3), Checks.BAD);
        eq("28: bound", x.caught(0), Checks.KIND);
        eq("28: nobody", x.caught(3), Checks.BAD);
        eq("27: runs", x.runs(0), 1);
        eq("27: from where", x.told(0, 6), 2);
        eq("27: at no place", x.told(0, 4), Checks.NONE);
        eq("27: runs already", x.runs(0), Checks.KIND);
        x.run(3);
        eq("28: caught", x.caught(0), 9);
        eq("28: ironed", x.told(0, 5), 3);
        eq("28: up to", x.told(0, 6), 9);
        eq("28: since", x.told(0, 7), 5);
        eq("28: at the place", x.told(0, 4), 2);
        eq("28: a mark of 3", x.markTold(0, 2), 3);
        eq("28: in the week", x.markTold(0, 1), 5);
        x.run(3);
        eq("28: still ironed", x.told(0, 5), 3);
        x.run(1);
        eq("30: bound as week 8 has gone by", x.told(0, 5), 1);
        eq("30: bound a", x.told(0, 6), 0);
        eq("30: since that week", x.told(0, 7), 8);
        Checks.law(x, "irons o*10+m", 0);
        x.runs(0);
        eq("28: irons with this mark", x.caught(0), 9 + 32);
        Checks.law(x, "irons 0", 0);
        eq("27: an ironed one runs", x.runs(0), 1);
        eq("28: 1 at least", x.caught(0), 10);
        x.runs(1);
        x.dies(1);
        eq("28: dead", x.caught(1), Checks.NO);
        x.dies(0);
        eq("27: dead", x.runs(0), Checks.NO);
    }

    private static void noRoomForMarks() {
        TicketShore x = Checks.landed(2);
        for (int i = 0; i < 40; i++) x.mark(1, 0);
        Checks.law(x, "irons m*7", 0);
        x.runs(0);
        eq("28: no room, and m with this one", x.caught(0), 9);
        eq("28: no mark", x.told(0, 8), 0);
        Checks.law(x, "fear 100", 0);
        Checks.law(x, "irons m*7+1", 0);
        x.run(1);
        eq("30: no mark", x.count(13), 40);
        eq("30: ironed all the same", x.told(0, 6), 2 + 8);
        eq("30: the other is held at 99", x.told(1, 6), 2 + 99);
    }

    private static void seeds() {
        TicketShore x = Checks.landed(1);
        eq("29: was", x.seed(65535), 13849);
        eq("29: above", x.seed(65536), Checks.BAD);
        eq("29: below", x.seed(-1), Checks.BAD);
        x.run(1);
        eq("29: a draw", x.seed(0), (25173L * 65535 + 13849) % 65536);
        x.runs(0);
        x.run(2);
        eq("30: who runs is not drawn for", x.count(22), 0);
        x.caught(0);
        x.run(1);
        eq("30: the ironed are", x.count(22), 13849);
        Checks.law(x, "pardon 1", 0);
        x.pardon(0, 0);
        x.run(1);
        eq("30: the pardoned are not", x.count(22), 13849);
    }

    private static void weeks() {
        TicketShore x = new TicketShore();
        eq("30: below", x.run(0), Checks.BAD);
        eq("30: above", x.run(61), Checks.BAD);
        eq("30: one", x.run(1), 1);
        for (int i = 1; i <= 33; i++) eq("30: sixty", x.run(60), 1 + 60 * i);
        eq("30: beyond", x.run(19), Checks.FULL);
        eq("30: nothing went by", x.count(21), 1981);
        eq("30: to the last", x.run(18), 1999);
        eq("30: no more", x.run(1), Checks.FULL);
        eq("30: bad ahead of full", x.run(0), Checks.BAD);
        eq("2: no week is later", x.ship(0, 2000), Checks.BAD);
    }

    /** Fear is just the rest of the second draw, so that this one does not offend. */
    private static void offences() {
        TicketShore x = Checks.landed(3);
        x.master(0, 63, 9, 50);
        for (int man = 0; man < 3; man++) x.assign(man, 0);
        int first = (25173 * 100 + 13849) % 65536;
        int second = (int) ((25173L * first + 13849) % 65536);
        int third = (int) ((25173L * second + 13849) % 65536);
        Checks.law(x, "fear " + (second % 100), 0);
        Checks.law(x, "irons 2", 0);
        x.seed(100);
        x.run(1);
        eq("30: seed", x.count(22), third);
        int[] draws = {first, second, third};
        int mark = 0;
        for (int man = 0; man < 3; man++) {
            boolean does = draws[man] % 100 < second % 100;
            eq("30: offends", x.told(man, 8), does ? 1 : 0);
            eq("30: is ironed", x.told(man, 5), does ? 3 : 2);
            eq("30: earns if not", x.told(man, 9), does ? 0 : 50);
            if (does) eq("30: offence", x.markTold(mark++, 2), draws[man] / 100 % 4);
        }
        eq("30: the rest is not less", x.told(1, 8), 0);
        eq("30: some did", mark > 0 ? 1 : 0, 1);
    }

    /** The first draw from 0 is 13849: its rest by 100 is 49, and 138 leaves 2 by 4. */
    private static void oneDraw() {
        for (int fear = 49; fear <= 50; fear++) {
            TicketShore x = Checks.landed(1);
            x.master(0, 63, 9, 50);
            x.assign(0, 0);
            x.seed(0);
            Checks.law(x, "fear " + fear, 0);
            Checks.law(x, "irons 1", 0);
            x.run(1);
            eq("30: offends by the rest", x.count(13), fear - 49);
            eq("30: irons of one week are over with it", x.told(0, 5), fear == 50 ? 1 : 2);
            eq("30: they cost him his wage", x.told(0, 9), fear == 50 ? 0 : 50);
            if (fear == 50) eq("30: the offence", x.markTold(0, 2), 2);
        }
    }

    private static void orderOfAWeek() {
        TicketShore x = new TicketShore();
        x.ship(3, 1);
        x.man(0, 2, 0, 20, 0);
        x.man(0, 3, 0, 20, 0);
        x.man(0, 3, 0, 20, 0);
        x.term(0, 1);
        x.term(1, 3);
        Checks.law(x, "stop e-d*2", 0);
        x.store(3, 6);
        x.run(2);
        eq("30: who lands eats", x.store(3, 0), 0);
        eq("30: there was enough", x.hungry(3), 0);
        eq("30: free in the week he landed", x.told(0, 5), 6);
        eq("30: since it", x.told(0, 7), 1);
        eq("30: free a", x.told(0, 6), 0);
        x.master(3, 63, 9, 40);
        x.assign(1, 0);
        Checks.law(x, "ticket 1", 0);
        x.ticket(2);
        x.run(1);
        eq("30: wage less stop", x.told(1, 9), 6);
        eq("30: of a ticket 5, stop held at 0", x.told(2, 9), 5);
        eq("30: the chest", x.count(18), 34);
        x.runs(1);
        x.run(1);
        eq("30: who runs is not free", x.told(1, 5), 7);
        x.caught(1);
        x.run(1);
        eq("30: caught with his term over, he is free", x.told(1, 5), 6);
        eq("30: he keeps his bank", x.told(1, 9), 6);
        x.run(1);
        eq("30: the free earn nothing", x.told(1, 9), 6);
        eq("30: tickets still do", x.told(2, 9), 20);
    }

    public static void main(String[] args) {
        marks();
        due();
        assign();
        mercy();
        running();
        noRoomForMarks();
        seeds();
        weeks();
        offences();
        oneDraw();
        orderOfAWeek();
        Checks.end("MarksActsTest");
    }
}
