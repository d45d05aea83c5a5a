/** The sentences of part 3 of the Terms: a week in its order, draws, acts. */
final class TermsWeeks {
    private static final String ABOARD = TermsShore.ABOARD, LANDED = TermsShore.LANDED;
    private static final String TWO = "ship(0,1) 2*man(0,0,0,20,0) run(2) ", THREE = "ship(0,1) 3*man(0,0,0,20,0) run(2) ";

    private TermsWeeks() { }

    static void tell(Ledger l) {
        l.part("Terms 3");
        landing(l);
        food(l);
        offences(l);
        earning(l);
        ends(l);
        draws(l);
        acts(l);
    }

    private static void landing(Ledger l) {
        l.told("A WEEK, in this order: (a) SHIPS that land in it, by numbers: all aboard who live are at the PLACE, BOUND.");
        l.run("in it, not ahead, not behind", "ship(1,2) ship(3,3) man(0,0,0,20,0) man(1,0,0,20,0) run(2) count(3)=2 run(1) told(0,4)=1 "
            + "told(1,4)=NONE run(1) told(1,4)=3 told(0,10)=2 told(1,10)=3");
        l.run("all aboard", "ship(4,1) 14*man(0,0,0,20,0) run(1) count(3)=14 run(1) count(3)=0 14*told(#,4)=4 14*told(#,10)=1");
        l.run("two in one WEEK", "ship(4,1) ship(5,1) man(1,0,0,20,0) man(0,0,0,20,0) run(2) told(0,4)=5 told(1,4)=4");
        l.run("who live", ABOARD + "man(0,0,0,20,0) dies(0) run(2) told(0,4)=NONE told(0,10)=NONE told(0,7)=0 told(1,4)=0");
        l.run("nobody aboard", "ship(0,1) run(2)=2 count(3)=0");
        l.run("ahead of (b): they eat", ABOARD + "store(0,3) run(2) store(0,0)=1");
        l.run("ahead of (c): they are drawn for", ABOARD + "run(1) count(22)=0 run(1) count(22)=13849");
        l.run("ahead of (f): free at once", ABOARD + "term(0,1) run(2) told(0,5)=6");
    }

    private static void food(Ledger l) {
        l.told("(b) FOOD: STORE of each PLACE (0 .. 9999, 0 at first) has as many less as living men there eat: "
            + "2 each (1 of an IRONED one); if there is less, all there is; HUNGRY of that PLACE: whether there was less.");
        l.run("0 at first", "6*store(#,0)=0");
        l.range("store", "store(0,7)", "store(0,?)=7", 0, 9999);
        l.run("2 each", THREE + "store(0,20) run(1) store(0,0)=14 hungry(0)=0");
        l.run("1 of an IRONED one", THREE + "runs(1) caught(1) store(0,20) run(1) store(0,0)=15");
        l.run("just enough", THREE + "store(0,6) run(1) hungry(0)=0 store(0,0)=0");
        l.run("one less", THREE + "store(0,5) run(1) hungry(0)=1 store(0,0)=0");
        l.run("one more", THREE + "store(0,7) run(1) hungry(0)=0 store(0,0)=1");
        l.run("nothing there", LANDED + "run(1) hungry(0)=1 store(0,0)=0");
        l.run("nobody there and nothing", "run(1) 6*hungry(#)=0 6*store(#,0)=0");
        l.run("the greatest STORE", LANDED + "store(0,9999) run(1) store(0,0)=9997");
        l.run("the DEAD eat nothing", TWO + "dies(0) store(0,9) run(1) store(0,0)=7");
        l.run("those who RUN eat nothing", TWO + "runs(0) store(0,9) run(1) store(0,0)=7");
        l.run("those aboard eat nothing", "ship(0,9) man(0,0,0,20,0) 6*store(#,9) run(2) 6*store(#,9)=9");
        l.run("PARDON, FREE, ASSIGNED and TICKET eat 2", "ship(0,1) 4*man(0,0,0,20,0) term(0,1) run(2) 'pardon 1'@0 'ticket 1'@0 pardon(1,0) "
            + "ticket(2) master(0,63,1,0) assign(3,0) store(0,9) run(1) store(0,9)=1");
        l.run("of that PLACE", "ship(0,1) ship(5,1) man(0,0,0,20,0) man(1,0,0,20,0) run(2) store(0,2) store(5,1) store(4,9) run(1) hungry(0)=0 "
            + "hungry(5)=1 hungry(4)=0 store(4,0)=9 store(5,0)=0");
        l.run("the next WEEK tells anew", LANDED + "run(1) hungry(0)=1 store(0,2) run(1) hungry(0)=0 run(1) hungry(0)=1");
        l.run("ahead of (e): IRONED to the end", LANDED + "'irons 1'@0 runs(0) caught(0)=3 store(0,9) run(1) store(0,9)=8 run(1) store(0,0)=7");
        l.run("ahead of (c): as he was", LANDED + "'fear 100'@0 'irons 9'@0 store(0,20) run(1) store(0,20)=18 run(1) store(0,0)=19");
    }

    /** The draws from SEED 0 on: 13849, 48742, 31223; of 3915 comes 0, of 63674 65499, of 33870 65535. */
    private static void offences(Ledger l) {
        l.told("(c) OFFENCES: men at PLACES by numbers, of KINDS 1 .. 4: one more DRAW; if its rest by 100 is less than fear, "
            + "he commits OFFENCE DRAW / 100, its rest by 4: a MARK more (if there is room), and if irons (m with this one) is above 0, "
            + "he is IRONED, up to as many WEEKS from this one on (whatever he was).");
        l.run("by numbers", THREE + "'irons 0'@0 'fear 43'@0 seed(0) run(1) count(13)=2 markTold(0,0)=1 markTold(0,2)=3 markTold(1,0)=2 "
            + "markTold(1,2)=0 count(22)=31223");
        l.run("at PLACES: not those aboard", "ship(0,9) man(0,0,0,20,0) run(2) count(22)=0");
        l.run("nor the DEAD", TWO + "dies(0) seed(0) run(1) count(22)=13849");
        l.run("nor those who RUN", TWO + "runs(0) seed(0) run(1) count(22)=13849");
        l.run("KIND 1", LANDED + "seed(0) run(1) count(22)=13849");
        l.run("KIND 2", LANDED + "master(0,63,1,0) assign(0,0) seed(0) run(1) count(22)=13849");
        l.run("KIND 3", LANDED + "runs(0) caught(0) seed(0) run(1) count(22)=13849");
        l.run("KIND 4", LANDED + "'ticket 1'@0 ticket(0) seed(0) run(1) count(22)=13849");
        l.run("not KIND 5", LANDED + "'pardon 1'@0 pardon(0,0) seed(0) run(1) count(22)=0");
        l.run("not KIND 6", ABOARD + "term(0,1) run(2) seed(0) run(1) count(22)=0");
        l.run("all KINDS at once", TermsShore.ALL_KINDS + "seed(0) run(1) count(22)=17180");
        l.run("its rest is fear", LANDED + "'irons 0'@0 'fear 49'@0 seed(0) run(1) count(13)=0");
        l.run("its rest is less by one", LANDED + "'irons 0'@0 'fear 50'@0 seed(0) run(1) count(13)=1");
        l.run("the least rest, no fear", LANDED + "'irons 0'@0 'fear 0'@0 seed(3915) run(1) count(22)=0 count(13)=0");
        l.run("the least rest, fear 1", LANDED + "'irons 0'@0 'fear 1'@0 seed(3915) run(1) count(22)=0 count(13)=1");
        l.run("the greatest rest, fear 99", LANDED + "'irons 0'@0 'fear 99'@0 seed(63674) run(1) count(22)=65499 count(13)=0");
        l.run("the greatest rest, fear 100", LANDED + "'irons 0'@0 'fear 100'@0 seed(63674) run(1) count(22)=65499 count(13)=1");
        l.run("OFFENCE of 0 and of 65535", LANDED + "'irons 0'@0 'fear 100'@0 seed(3915) run(1) markTold(0,2)=0 seed(33870) run(1) "
            + "count(22)=65535 markTold(1,2)=3");
        l.run("OFFENCE of 99 and of 100", LANDED + "'irons 0'@0 'fear 100'@0 seed(53026) run(1) markTold(0,2)=0 seed(23071) run(1) markTold(1,2)=1");
        l.run("OFFENCE of 199, 200, 299, 300", LANDED + "'irons 0'@0 'fear 100'@0 seed(6646) run(1) seed(42227) run(1) seed(25802) run(1) "
            + "seed(61383) run(1) "
            + "markTold(0,2)=1 markTold(1,2)=2 markTold(2,2)=2 markTold(3,2)=3");
        l.run("OFFENCE of 399 and of 400", LANDED + "'irons 0'@0 'fear 100'@0 seed(44958) run(1) markTold(0,2)=3 seed(15003) run(1) markTold(1,2)=0");
        l.run("the MARK", LANDED + "'irons 0'@0 'fear 100'@0 run(1) markTold(0,0)=0 markTold(0,1)=2 markTold(0,3)=0 told(0,8)=1");
        l.run("room for one", LANDED + "39*mark(0,0) 'irons 0'@0 'fear 100'@0 run(1) count(13)=40");
        l.run("no room", LANDED + "40*mark(0,0) 'irons 0'@0 'fear 100'@0 run(1) count(13)=40 markTold(39,1)=2");
        l.run("no room, and IRONED all the same", TWO + "40*mark(1,0) 'irons m*5'@0 'fear (m=0)*100'@0 run(1) told(0,5)=3 told(0,6)=7 told(0,8)=0 "
            + "told(1,5)=1");
        l.run("room for the first of two", TWO + "39*mark(1,0) 'irons 0'@0 'fear 100'@0 run(1) told(0,8)=1 told(1,8)=39 count(13)=40");
        l.run("irons 0", LANDED + "'irons 0'@0 'fear 100'@0 run(1) told(0,5)=1 told(0,7)=1 told(0,8)=1");
        l.run("irons 1", LANDED + "master(0,63,1,50) assign(0,0) 'irons 1'@0 'fear 100'@0 run(1) told(0,5)=1 told(0,7)=2 told(0,9)=0 has(0,4)=0");
        l.run("irons 2", LANDED + "'irons 2'@0 'fear 100'@0 run(1) told(0,5)=3 told(0,6)=4 told(0,7)=2");
        l.run("m with this one", LANDED + "2*mark(0,0) voids(0,1) 'irons m-1'@0 'fear 100'@0 run(1) told(0,5)=1 told(0,8)=2 'irons m*5'@0 run(1) "
            + "told(0,6)=18");
        l.run("ahead of (e): IRONED as he is drawn for", LANDED + "'irons 1'@0 runs(0) caught(0)=3 'irons 0'@0 'fear (k=3)*100'@0 run(1) "
            + "told(0,8)=2 told(0,5)=1");
        l.run("ahead of (f): BOUND as he is drawn for", ABOARD + "term(0,1) 'irons 0'@0 'fear 100'@0 run(2) told(0,8)=1 told(0,5)=6");
        l.run("whatever he was: ASSIGNED", LANDED + "master(0,63,1,50) assign(0,0) 'irons 5'@0 'fear 100'@0 run(1) told(0,5)=3 has(0,4)=0");
        l.run("whatever he was: TICKET", LANDED + "'ticket 1'@0 ticket(0) 'irons 5'@0 'fear 100'@0 run(1) told(0,5)=3");
        l.run("whatever he was: IRONED for longer", LANDED + "'irons 90'@0 runs(0) caught(0)=92 'irons 5'@0 'fear 100'@0 run(1) told(0,6)=7 "
            + "told(0,7)=2");
    }

    private static void earning(Ledger l) {
        l.told("(d) ASSIGNED ones earn the WAGE of their MASTER, TICKETS 5: stop of it goes into the CHEST, the rest into his BANK.");
        l.run("their own MASTER", THREE + "master(0,63,1,0) master(0,63,1,99) 2*assign(#,#) run(1) told(0,9)=0 told(1,9)=99 told(2,9)=0 run(1) "
            + "told(1,9)=198");
        l.run("TICKETS", LANDED + "'ticket 1'@0 ticket(0) run(1) told(0,9)=5 run(2) told(0,9)=15");
        l.run("no others", TermsShore.ALL_KINDS + "run(1) told(0,9)=0 told(1,9)=1 told(2,9)=0 told(3,9)=5 told(4,9)=0 told(5,9)=0 told(6,9)=0 "
            + "told(7,9)=0 count(18)=0");
        l.run("stop nothing", LANDED + "master(0,63,1,10) assign(0,0) 'stop 0'@0 run(1) told(0,9)=10 count(18)=0");
        l.run("stop all", LANDED + "master(0,63,1,10) assign(0,0) 'stop e'@0 run(1) told(0,9)=0 count(18)=10");
        l.run("stop some", LANDED + "master(0,63,1,10) assign(0,0) 'stop e/3'@0 run(1) told(0,9)=7 count(18)=3 run(1) told(0,9)=14 count(18)=6");
        l.run("the DEAD earn nothing", LANDED + "master(0,63,1,10) assign(0,0) run(1) dies(0) run(1) told(0,9)=10");
        l.run("behind (c): the IRONED earn nothing", LANDED + "master(0,63,1,50) assign(0,0) 'fear 100'@0 run(1) told(0,9)=0");
        l.run("ahead of (f): he earns as he becomes FREE", ABOARD + "term(0,2) run(2) master(0,63,1,50) assign(0,0) run(1) told(0,5)=6 "
            + "told(0,9)=50 run(1) told(0,9)=50");
    }

    private static void ends(Ledger l) {
        l.told("(e) IRONED ones whose WEEK up to which is the next one are BOUND.");
        l.run("the next one", LANDED + "'irons 1'@0 runs(0) caught(0)=3 run(1) told(0,5)=1 told(0,6)=0 told(0,7)=2");
        l.run("one later", LANDED + "'irons 2'@0 runs(0) caught(0)=4 run(1) told(0,5)=3 told(0,6)=4 told(0,7)=2 run(1) told(0,5)=1 told(0,7)=3");
        l.run("the longest", LANDED + "'irons 99'@0 runs(0) caught(0)=101 run(60) run(38)=100 told(0,5)=3 run(1) told(0,5)=1");
        l.run("not the DEAD", LANDED + "'irons 1'@0 runs(0) caught(0)=3 dies(0) run(3) told(0,5)=3 told(0,6)=3");
        l.told("(f) men at PLACES of KINDS 1 .. 4 whose TERM is over as this WEEK has gone by are FREE.");
        l.run("one WEEK ahead of it", ABOARD + "term(0,5) run(5) told(0,5)=1 run(1) told(0,5)=6 told(0,7)=5 told(0,6)=0");
        l.run("KIND 2", ABOARD + "term(0,3) run(2) master(0,63,1,1) assign(0,0) run(1) told(0,5)=2 run(1) told(0,5)=6 has(0,4)=0");
        l.run("KIND 3", ABOARD + "term(0,3) run(2) runs(0) caught(0)=6 run(1) told(0,5)=3 run(1) told(0,5)=6");
        l.run("KIND 3, BOUND in the same WEEK", ABOARD + "term(0,2) run(2) 'irons 1'@0 runs(0) caught(0)=3 run(1) told(0,5)=6");
        l.run("KIND 4", ABOARD + "term(0,3) run(2) 'ticket 1'@0 ticket(0) run(1) told(0,5)=4 run(1) told(0,5)=6");
        l.run("not KIND 5", ABOARD + "term(0,2) run(2) 'pardon 1'@0 pardon(0,1) run(3) told(0,5)=5 told(0,7)=2");
        l.run("not who RUNS", ABOARD + "term(0,2) run(2) runs(0) run(3) told(0,5)=7 caught(0)=9 run(1) told(0,5)=6 told(0,7)=5");
        l.run("not those aboard", "ship(0,9) man(0,0,0,20,0) term(0,1) run(9) told(0,5)=1 count(3)=1 run(1) told(0,5)=6");
        l.run("not the DEAD", ABOARD + "term(0,2) run(2) dies(0) run(3) told(0,5)=1");
        l.run("once", ABOARD + "term(0,1) run(2) told(0,7)=1 run(3) told(0,7)=1");
        l.told("(A STATE that begins in a WEEK that goes by is since that WEEK.)");
        l.run("BOUND", ABOARD + "run(2)=2 told(0,7)=1");
        l.run("IRONED", LANDED + "run(3)=5 'fear 100'@0 run(1)=6 told(0,5)=3 told(0,7)=5");
        l.run("FREE", ABOARD + "term(0,3) run(4)=4 told(0,5)=6 told(0,7)=3");
        l.told("(g) LETTERS that are due come.");
        l.run("in their WEEK", LANDED + "letter(0,0,1) letter(0,1,2) run(1) letterTold(0,3)=0 run(1) letterTold(0,3)=1 letterTold(1,3)=0 run(1) "
            + "letterTold(1,3)=1");
        l.run("the longest", ABOARD + "letter(0,0,99) run(60) run(39)=99 letterTold(0,3)=0 run(1) letterTold(0,3)=1");
        l.told("(h) The next WEEK is open.");
        l.run("by one", "run(1)=1 run(1)=2 count(21)=2");
        l.run("sixty", "run(60)=60 run(59)=119");
        l.run("the last", "33*run(60) run(18)=1998 run(1)=1999 run(1)=FULL");
    }

    private static void draws(Ledger l) {
        l.told("A DRAW: SEED (0 .. 65535) becomes 25173 times it and 13849, its rest by 65536; that is the DRAW.");
        l.range("seed", "", "seed(?)=0", 0, 65535);
        l.run("from 0", LANDED + "seed(0) run(1) count(22)=13849");
        l.run("from 65535", LANDED + "seed(65535) run(1) count(22)=54212");
        l.run("to 0", LANDED + "seed(3915) run(1) count(22)=0");
        l.run("to 65535", LANDED + "seed(33870) run(1) count(22)=65535");
        l.run("three", THREE + "seed(0) run(1) count(22)=31223");
        l.run("none", "seed(9) run(9) count(22)=9");
    }

    private static void acts(Ledger l) {
        l.told("ACTS: a BOUND one is ASSIGNED to a MASTER at his PLACE who wants his TRADE and has a hand free;");
        l.run("BOUND", TermsShore.ALL_KINDS + "assign(0,0)=1 assign(0,0)=KIND assign(2,0)=KIND assign(3,0)=KIND assign(4,0)=KIND assign(5,0)=KIND "
            + "assign(6,0)=KIND");
        l.run("at his PLACE", LANDED + "master(1,63,1,1) master(0,63,1,1) assign(0,0)=NO assign(0,1)=1");
        l.run("his TRADE", LANDED + "master(0,62,1,1) master(0,1,1,1) assign(0,0)=NO assign(0,1)=1");
        l.run("a hand free", TWO + "master(0,63,1,1) assign(0,0)=1 assign(1,0)=NO back(0) assign(1,0)=1");
        l.run("a hand free by death", TWO + "master(0,63,1,1) assign(0,0)=1 assign(1,0)=NO dies(0) assign(1,0)=1");
        l.told("a TICKET is given to a BOUND or ASSIGNED one, if ticket is not 0 for him now;");
        l.run("BOUND or ASSIGNED", TermsShore.ALL_KINDS + "ticket(0)=1 ticket(1)=1 ticket(2)=KIND ticket(3)=KIND ticket(4)=KIND ticket(5)=KIND "
            + "ticket(6)=KIND");
        l.run("0", LANDED + "'ticket 0'@0 ticket(0)=NO");
        l.run("not 0", LANDED + "'ticket 0-1'@0 ticket(0)=1");
        l.run("now", LANDED + "'ticket w>2'@0 ticket(0)=NO run(1) ticket(0)=NO run(1) ticket(0)=1");
        l.run("for him", TWO + "mark(0,0) 'ticket m'@0 ticket(1)=NO ticket(0)=1");
        l.told("a PARDON (with or without a condition) to any of KINDS 1 .. 4, if pardon is not 0 for him now.");
        l.run("KINDS 1 .. 4", TermsShore.ALL_KINDS + "pardon(0,0)=1 pardon(1,1)=1 pardon(2,0)=1 pardon(3,1)=1 pardon(4,0)=KIND pardon(5,0)=KIND "
            + "pardon(6,0)=KIND "
            + "told(0,6)=0 told(1,6)=1 told(2,6)=0 told(3,6)=1");
        l.run("0", LANDED + "pardon(0,0)=NO 'pardon 0'@0 pardon(0,1)=NO");
        l.run("not 0", LANDED + "'pardon 0-1'@0 pardon(0,1)=1");
        l.run("now", LANDED + "'pardon w>2'@0 pardon(0,0)=NO run(1) pardon(0,0)=NO run(1) pardon(0,0)=1");
        l.told("He RUNS who is of KINDS 1 .. 4;");
        l.run("KINDS 1 .. 4", TermsShore.ALL_KINDS + "runs(0)=1 runs(1)=1 runs(2)=1 runs(3)=1 runs(4)=KIND runs(5)=KIND runs(6)=KIND");
        l.told("CAUGHT, he is at the PLACE from which he ran, has a MARK of OFFENCE 3 (if there is room), "
            + "and is IRONED up to as many WEEKS from now on as irons for that (m with this one), 1 at least.");
        l.run("the PLACE", "ship(5,1) man(0,0,0,20,0) run(2) runs(0) told(0,4)=NONE caught(0)=6 told(0,4)=5");
        l.run("the MARK", LANDED + "runs(0) run(3) caught(0)=9 count(13)=1 markTold(0,0)=0 markTold(0,1)=5 markTold(0,2)=3 markTold(0,3)=0");
        l.run("room for one", LANDED + "39*mark(0,0) runs(0) caught(0) count(13)=40 markTold(39,2)=3");
        l.run("no room", LANDED + "40*mark(0,0) runs(0) caught(0)=6 count(13)=40 markTold(39,2)=0 told(0,5)=3");
        l.run("from now on", LANDED + "runs(0) run(7) caught(0)=13 told(0,7)=9");
        l.run("m with this one", LANDED + "mark(0,0) 'irons m*10'@0 runs(0) caught(0)=22");
        l.run("irons 0", LANDED + "'irons 0'@0 runs(0) caught(0)=3");
        l.run("irons 1", LANDED + "'irons 1'@0 runs(0) caught(0)=3");
        l.run("irons 2", LANDED + "'irons 2'@0 runs(0) caught(0)=4");
        l.run("irons below 0", LANDED + "'irons 0-5'@0 runs(0) caught(0)=3");
    }
}
