/** Promises 47 to 50: musters. */
public final class MustersTest {
    private static void eq(String what, long got, long want) { Checks.eq(what, got, want); }

    private static void shapes() {
        TicketShore x = new TicketShore();
        eq("47: muster", x.muster(4, 0, 1), Checks.BAD);
        eq("47: muster below", x.muster(-1, 0, 1), Checks.BAD);
        eq("47: sort", x.muster(0, 2, 1), Checks.BAD);
        eq("47: sort below", x.muster(0, -2, 1), Checks.BAD);
        eq("47: above", x.muster(0, 1, 25), Checks.BAD);
        eq("47: size", x.muster(0, 1, -1), Checks.SIZE);
        eq("47: bad ahead of size", x.muster(0, 2, -1), Checks.BAD);
        eq("47: it is still missing", x.put(0, 0, 1), Checks.NOTHING);
        eq("47: greatest", x.muster(0, 1, 24), 24);
        eq("47: last place", x.put(0, 23, 5), 1);
        eq("47: no more", x.put(0, 24, 5), Checks.INDEX);
        eq("47: anew", x.muster(0, 0, 24), 24);
        eq("47: all 0", x.read(0, 23), 0);
        x.put(0, 0, 3);
        x.muster(0, 0, 24);
        eq("47: the first, too", x.read(0, 0), 0);
        eq("47: none", x.muster(0, 0, 0), 0);
        eq("47: a row without places", x.put(0, 0, 1), Checks.INDEX);
        eq("47: missing, n any", x.muster(0, -1, -9), 0);
        eq("47: missing, n above", x.muster(0, -1, 99), 0);
        eq("47: is missing", x.put(0, 0, 1), Checks.NOTHING);
        eq("47: bad muster ahead of missing", x.muster(4, -1, 0), Checks.BAD);
    }

    private static void numbers() {
        TicketShore x = new TicketShore();
        x.muster(0, 0, 3);
        x.muster(1, 1, 3);
        int[] put = {127, 128, 255, 256, -1, 65535, 32767, 32768, Integer.MAX_VALUE, 1000};
        for (int v : put) {
            eq("48: byte", x.put(0, 1, v), 1);
            eq("48: short", x.put(1, 1, v), 1);
            int b = (byte) v, s = (short) v;
            eq("48: as byte " + v, x.read(0, 1), b == -128 ? Checks.KIND : b);
            eq("48: as short " + v, x.read(1, 1), s == -32768 ? x.read(0, 1) : s);
        }
        eq("48: muster", x.put(4, 0, 0), Checks.BAD);
        eq("48: muster below", x.put(-1, 0, 0), Checks.BAD);
        eq("48: missing", x.put(2, 99, 0), Checks.NOTHING);
        eq("48: place", x.put(0, 3, 0), Checks.INDEX);
        eq("48: place below", x.put(0, -1, 0), Checks.INDEX);
        eq("48: far", x.put(0, Integer.MIN_VALUE, 0), Checks.INDEX);
    }

    private static void reads() {
        TicketShore x = new TicketShore();
        x.muster(0, 1, 4);
        x.muster(1, 0, 2);
        x.muster(3, 0, 4);
        x.put(0, 0, 11);
        x.put(0, 1, -32768);
        x.put(0, 2, -128);
        x.put(1, 0, -128);
        x.put(1, 1, 22);
        for (int place = 0; place < 4; place++) x.put(3, place, -128);
        eq("49: past a missing one and one not mustered", x.read(3, 0), 11);
        eq("49: the nearest", x.read(3, 1), 22);
        eq("49: past a shorter one, -128 of a short", x.read(3, 2), -128);
        eq("49: 0 was mustered", x.read(3, 3), 0);
        eq("49: none", x.read(0, 1), Checks.KIND);
        x.muster(1, -1, 0);
        eq("49: none of all", x.read(3, 1), Checks.KIND);
        eq("49: missing itself", x.read(2, 0), Checks.NOTHING);
        eq("49: place of this one", x.read(3, 4), Checks.INDEX);
        eq("49: place below", x.read(3, -1), Checks.INDEX);
        eq("49: muster", x.read(4, 0), Checks.BAD);
        eq("49: muster below", x.read(-1, 0), Checks.BAD);
        eq("49: not from a greater one", x.put(3, 1, 9), 1);
        eq("49: still none", x.read(0, 1), Checks.KIND);
    }

    private static void copies() {
        TicketShore x = new TicketShore();
        x.muster(0, 0, 6);
        x.muster(1, 0, 3);
        x.muster(2, 1, 3);
        for (int i = 0; i < 6; i++) x.put(0, i, i + 1);
        eq("50: onto itself, up", x.copy(0, 0, 0, 2, 4), 4);
        int[] up = {1, 2, 1, 2, 3, 4};
        for (int i = 0; i < 6; i++) eq("50: as they were " + i, x.read(0, i), up[i]);
        eq("50: onto itself, down", x.copy(0, 1, 0, 0, 5), 5);
        int[] down = {2, 1, 2, 3, 4, 4};
        for (int i = 0; i < 6; i++) eq("50: as they were " + i, x.read(0, i), down[i]);
        x.put(0, 5, -128);
        eq("50: to another", x.copy(0, 4, 1, 1, 2), 2);
        eq("50: the place ahead stays", x.read(1, 0), 0);
        eq("50: came", x.read(1, 1), 4);
        eq("50: as not mustered", x.read(1, 2), 2);
        eq("50: none at the end", x.copy(0, 6, 1, 3, 0), 0);
        eq("50: none behind the end", x.copy(0, 7, 1, 0, 0), Checks.INDEX);
        eq("50: from too far", x.copy(0, 5, 1, 0, 2), Checks.INDEX);
        eq("50: to too far", x.copy(0, 0, 1, 2, 2), Checks.INDEX);
        eq("50: place below", x.copy(0, -1, 1, 0, 1), Checks.INDEX);
        eq("50: at below", x.copy(0, 0, 1, -1, 1), Checks.INDEX);
        eq("50: fewer than none", x.copy(0, 0, 1, 0, -1), Checks.INDEX);
        eq("50: very many", x.copy(0, 1, 1, 1, Integer.MAX_VALUE), Checks.INDEX);
        eq("50: not of one sort, ahead of index", x.copy(0, 9, 2, 0, 1), Checks.KIND);
        eq("50: missing, from", x.copy(3, 0, 2, 0, 1), Checks.NOTHING);
        eq("50: missing, to", x.copy(2, 9, 3, 0, 1), Checks.NOTHING);
        eq("50: from above", x.copy(4, 0, 3, 0, 1), Checks.BAD);
        eq("50: to above", x.copy(3, 0, 4, 0, 1), Checks.BAD);
        eq("50: from below", x.copy(-1, 0, 0, 0, 1), Checks.BAD);
        eq("50: to below", x.copy(0, 0, -1, 0, 1), Checks.BAD);
        eq("50: nothing is changed", x.read(1, 1), 4);
    }

    public static void main(String[] args) {
        shapes();
        numbers();
        reads();
        copies();
        Checks.end("MustersTest");
    }
}
