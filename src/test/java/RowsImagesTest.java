/** Promises 51 to 55: numbers that wait, the weeks told, images, counts. */
public final class RowsImagesTest {
    private static void eq(String what, long got, long want) { Checks.eq(what, got, want); }

    private static void tell() {
        TicketShore x = new TicketShore();
        for (int i = 1; i <= 60; i++) eq("51: waits", x.tell(-i), i);
        eq("51: full", x.tell(0), Checks.FULL);
        eq("55: they wait", x.count(19), 60);
        eq("52: no image", x.check(1), Checks.NO);
        eq("52: none wait", x.count(19), 0);
        x.keep();
        x.tell(0);
        eq("52: below", x.check(0), Checks.BAD);
        eq("52: none wait then, too", x.count(19), 0);
        x.tell(0);
        eq("52: above", x.check(31), Checks.BAD);
        eq("52: missing from the first on", x.check(30), 1);
        for (int i = 0; i < 60; i++) x.tell(0);
        eq("52: thirty weeks", x.check(30), 0);
        for (int i = 0; i < 59; i++) x.tell(0);
        eq("52: one is missing", x.check(30), 60);
    }

    /** One earns 40 a week, less 3; the other offends each week and has a void mark. */
    private static TicketShore earning() {
        TicketShore x = new TicketShore();
        x.ship(0, 1);
        x.man(0, 3, 0, 20, 0);
        x.man(0, 0, 1, 20, 0);
        x.run(2);
        x.master(0, 1, 1, 40);
        x.assign(0, 0);
        x.mark(1, 0);
        x.mark(1, 0);
        x.voids(0, 1);
        Checks.law(x, "stop d", 0);
        Checks.law(x, "fear (k=1)*100", 0);
        Checks.law(x, "irons 0", 0);
        return x;
    }

    private static void check() {
        TicketShore x = earning();
        eq("53: the week", x.keep(), 2);
        int[] right = {2, 37, 3, 74, 4, 111};
        for (int v : right) x.tell(v);
        eq("52: right", x.check(3), 0);
        for (int wrong = 0; wrong < 6; wrong++) {
            for (int i = 0; i < 6; i++) x.tell(i == wrong ? -1 : right[i]);
            eq("52: wrong at " + wrong, x.check(3), wrong + 1);
        }
        for (int v : right) x.tell(v);
        eq("52: too many", x.check(2), 5);
        for (int v : right) x.tell(v);
        eq("52: too few", x.check(4), 7);
        eq("52: nothing went by", x.count(21), 2);
        x.run(1);
        x.voids(1, 1);
        x.dies(0);
        for (int v : right) x.tell(v);
        eq("52: from the image on", x.check(3), 0);
        eq("52: what is now stays", x.told(0, 11), 1);
        x.keep();
        x.tell(2);
        x.tell(37);
        eq("52: void ones not, the bank of the dead too", x.check(1), 0);
    }

    private static void beyond() {
        TicketShore x = new TicketShore();
        x.ship(0, 1999);
        x.man(0, 0, 0, 20, 0);
        for (int i = 0; i < 33; i++) x.run(60);
        x.run(19);
        Checks.law(x, "fear 100", 0);
        Checks.law(x, "irons 0", 0);
        eq("53: the last week", x.keep(), 1999);
        for (int i = 1; i <= 30; i++) {
            x.tell(i);
            x.tell(0);
        }
        eq("52: beyond the last week", x.check(30), 0);
        eq("52: it is still open", x.count(21), 1999);
    }

    private static void images() {
        TicketShore x = earning();
        eq("54: none", x.again(), Checks.NO);
        x.muster(0, 0, 2);
        x.path(0, 1, 7);
        x.look(8, 6, 0, 0);
        x.sentence(1, 2, 50);
        x.letter(0, 0, 2);
        x.party(3, 0, 9);
        x.way(2, 1, 0, 8);
        x.store(4, 44);
        eq("53: kept", x.keep(), 2);
        x.path(0, 1, 8);
        x.look(1, 6, 0, 0);
        x.sentence(1, 2, 100);
        x.letter(1, 0, 1);
        x.party(3, 0, 10);
        x.way(2, 1, 0, 9);
        x.store(4, 45);
        x.store(0, 1);
        Checks.law(x, "stop e", 0);
        x.master(1, 1, 1, 1);
        x.ship(2, 9);
        x.man(1, 1, 1, 30, 1);
        x.run(4);
        x.voids(0, 0);
        x.dies(1);
        x.dies(2);
        x.put(0, 0, 5);
        x.tell(3);
        x.feed(1, 2, 3);
        eq("54: again", x.again(), 2);
        eq("54: and again", x.again(), 2);
        int[] counts = {1, 2, 0, 0, 0, 1, 1, 0, 0, 0, 0, 0, 1, 2, 3, 1, 1, 1, 0, 1, 12, 2, 48742};
        for (int i = 0; i < 23; i++) eq("54: count " + i, x.count(i), counts[i]);
        eq("54: path", x.path(0, 1, 7), 7);
        eq("54: mean", x.mean(1, 2), 50);
        eq("54: letter", x.letterTold(0, 3), 0);
        eq("54: party", x.party(3, 0, 9), 9);
        eq("54: way", x.way(2, 1, 0, 8), 8);
        eq("54: store", x.store(4, 44), 44);
        eq("54: store of 0", x.store(0, 0), 0);
        eq("54: hungry as then", x.hungry(0), 1);
        eq("54: void as then", x.markTold(0, 3), 1);
        eq("54: bank", x.told(0, 9), 0);
        eq("54: the law", x.why(4), 0);
        eq("54: musters are not kept", x.read(0, 0), 5);
        x.trim(0);
        eq("54: a law anew", Checks.law(x, "stop 7", 0), 3);
        eq("54: with its own worth", x.rules(4, 9, 9, 0), 7);
        x.again();
        eq("54: the image has not changed", x.rules(4, 9, 9, 0), 9);
        x.letter(0, 0, 1);
        eq("54: a new letter has not come", x.letterTold(1, 3), 0);
        x.ship(5, 9);
        eq("54: a new man", x.man(1, 5, 5, 50, 5), 2);
        eq("54: has no bank", x.told(2, 9), 0);
        eq("54: is not dead", x.told(2, 11), 0);
        x.run(1);
        eq("53: kept anew", x.keep(), 3);
        x.run(5);
        eq("54: the new one", x.again(), 3);
    }

    private static void counts() {
        TicketShore x = Checks.landed(7);
        x.ship(1, 60);
        x.man(1, 0, 0, 20, 0);
        x.man(1, 0, 0, 20, 0);
        x.dies(8);
        x.dies(6);
        x.master(0, 63, 9, 20);
        Checks.law(x, "ticket 1", 0);
        Checks.law(x, "pardon 1", 0);
        x.assign(1, 0);
        x.runs(2);
        x.caught(2);
        x.ticket(3);
        x.pardon(4, 0);
        x.runs(5);
        x.mark(0, 0);
        x.voids(0, 1);
        x.look(8, 6, 0, 0);
        x.sentence(0, 0, 0);
        x.letter(0, 0, 1);
        x.tell(1);
        x.tell(1);
        x.feed(0, 0, 0);
        x.seed(77);
        int[] due = {2, 9, 2, 1, 0, 2, 1, 1, 1, 1, 0, 1, 1, 2, 2, 1, 1, 1, 0, 2, 12, 2, 77};
        for (int i = 0; i < 23; i++) eq("55: count " + i, x.count(i), due[i]);
        eq("55: above", x.count(23), Checks.BAD);
        eq("55: below", x.count(-1), Checks.BAD);
        x.trim(0);
        Checks.law(x, "stop 3", 0);
        x.run(1);
        eq("55: the chest", x.count(18), 6);
        TicketShore y = new TicketShore();
        y.ship(0, 1);
        y.man(0, 0, 0, 20, 0);
        y.term(0, 1);
        y.run(2);
        eq("55: free", y.count(10), 1);
    }

    public static void main(String[] args) {
        tell();
        check();
        beyond();
        images();
        counts();
        Checks.end("RowsImagesTest");
    }
}
