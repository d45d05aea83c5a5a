/** The sentences of promises 18 to 30. */
final class PromisesActs {
    private static final String ABOARD = TermsShore.ABOARD, LANDED = TermsShore.LANDED, ALL_KINDS = TermsShore.ALL_KINDS;
    /** Man 0 has landed at place 0, man 1 is aboard; week 2 is open. */
    private static final String BOTH = "ship(0,1) ship(0,90) man(0,0,0,20,0) man(1,0,0,20,0) run(2) ";

    private PromisesActs() { }

    static void tell(Ledger l) {
        marks(l);
        dues(l);
        assigned(l);
        mercy(l);
        running(l);
        weeks(l);
    }

    private static void marks(Ledger l) {
        l.part("Promise 18");
        l.told("One more MARK in the open WEEK (no irons): its number.");
        l.run("0, then 1", LANDED + "mark(0,3)=0 run(1) mark(0,0)=1 markTold(0,1)=2 markTold(1,1)=3 count(13)=2");
        l.run("no irons", LANDED + "'irons 99'@0 mark(0,3) told(0,5)=1 told(0,7)=1");
        l.run("also of one who RUNS, is FREE or has a PARDON", ALL_KINDS + "mark(4,0)=1 mark(5,0)=2 mark(6,0)=3");
        l.told("BAD;");
        l.range("man", "ship(0,1) 2*man(0,0,0,20,0) run(2)", "mark(?,0)=0", 0, 1);
        l.range("offence", LANDED, "mark(0,?)=0", 0, 3);
        l.told("NO: he is DEAD, or aboard;");
        l.run("DEAD", LANDED + "mark(0,0)=0 dies(0) mark(0,0)=NO count(13)=1");
        l.run("aboard", ABOARD + "mark(0,0)=NO run(1) mark(0,0)=NO run(1) mark(0,0)=0");
        l.told("FULL.");
        l.run("the fortieth and the next", LANDED + "39*mark(0,0) mark(0,0)=39 mark(0,0)=FULL count(13)=40");

        l.part("Promise 19");
        l.told("A MARK is VOID (on 1), or not (0): what it was.");
        l.run("on, on, off, off", LANDED + "mark(0,0) voids(0,1)=0 markTold(0,3)=1 voids(0,1)=1 voids(0,0)=1 markTold(0,3)=0 voids(0,0)=0");
        l.run("that MARK", LANDED + "3*mark(0,0) voids(1,1)=0 markTold(0,3)=0 markTold(1,3)=1 markTold(2,3)=0");
        l.run("of a DEAD man, too", LANDED + "mark(0,0) dies(0) voids(0,1)=0 told(0,8)=0");
        l.told("BAD.");
        l.range("mark", LANDED + "2*mark(0,0)", "voids(?,1)=0", 0, 1);
        l.range("on", LANDED + "mark(0,0)", "voids(0,?)=0", 0, 1);

        l.part("Promise 20");
        l.told("Of a MARK: what 0 its man, 1 the WEEK, 2 OFFENCE, 3 whether VOID.");
        l.run("each", "ship(0,1) 14*man(0,0,0,20,0) run(2) mark(13,3) voids(0,1) markTold(0,0)=13 markTold(0,1)=2 markTold(0,2)=3 markTold(0,3)=1 "
            + "mark(0,0) markTold(1,0)=0 markTold(1,2)=0 markTold(1,3)=0");
        l.told("BAD.");
        l.range("mark", LANDED + "2*mark(0,0)", "markTold(?,0)=0", 0, 1);
        l.range("what", LANDED + "mark(0,0)", "markTold(0,?)=0", 0, 3);
    }

    private static void dues(Ledger l) {
        l.part("Promise 21");
        l.told("DUE of a man.");
        l.run("his own", "ship(0,1) ship(0,2) man(0,0,0,20,0) man(1,0,0,20,0) run(3) due(0)=210 due(1)=211");
        l.run("of one who has a TICKET, RUNS, is FREE", ALL_KINDS + "due(3)=2 due(5)=2 due(6)=2 due(4)=2");
        l.told("BAD;");
        l.range("man", "ship(0,1) 2*man(0,0,0,20,0) run(2)", "due(?)=210", 0, 1);
        l.told("NO: aboard, or DEAD;");
        l.run("aboard", ABOARD + "due(0)=NO run(1) due(0)=NO run(1) due(0)=210");
        l.run("DEAD", LANDED + "due(0)=210 dies(0) due(0)=NO");
        l.run("DEAD aboard", ABOARD + "dies(0) due(0)=NO run(2) due(0)=NO");
        l.told("NONE.");
        l.run("never, and in the last of the WEEKS", LANDED + "'ticket 0'@0 due(0)=NONE 'ticket w>600'@0 due(0)=NONE 'ticket w>599'@0 due(0)=601");

        l.part("Promise 22");
        l.told("MOVES of a MARK.");
        l.run("by one WEEK", LANDED + "'ticket w>m'@0 mark(0,0) moves(0)=1");
        l.run("nothing is changed", LANDED + "'ticket w>m'@0 mark(0,0) moves(0)=1 markTold(0,3)=0 told(0,8)=1 due(0)=3");
        l.told("BAD;");
        l.range("mark", LANDED + "2*mark(0,0)", "moves(?)=0", 0, 1);
        l.told("NO: it is VOID, or its man DEAD;");
        l.run("VOID", LANDED + "mark(0,0) voids(0,1) moves(0)=NO voids(0,0) moves(0)=0");
        l.run("DEAD", "ship(0,1) 2*man(0,0,0,20,0) run(2) mark(0,0) mark(1,0) dies(1) moves(1)=NO moves(0)=0");
        l.told("NONE.");
        l.run("with it, or without", LANDED + "mark(0,0) 'ticket m=0'@0 moves(0)=NONE 'ticket m=1'@0 moves(0)=NONE 'ticket m<2'@0 moves(0)=0");
    }

    private static void assigned(Ledger l) {
        l.part("Promise 23");
        l.told("A man is ASSIGNED: 1.");
        l.run("to that MASTER, since then", LANDED + "2*master(0,63,1,1) run(1) assign(0,1)=1 told(0,5)=2 told(0,6)=1 told(0,7)=3 has(1,4)=1 "
            + "has(0,4)=0");
        l.told("BAD;");
        l.range("man", "ship(0,1) 2*man(0,0,0,20,0) run(2) master(0,63,9,1)", "assign(?,0)=1", 0, 1);
        l.range("master", LANDED + "2*master(0,63,9,1)", "assign(0,?)=1", 0, 1);
        l.told("KIND: he is not BOUND itself;");
        l.run("under BOUND, or beside", ALL_KINDS + "assign(1,0)=KIND assign(2,0)=KIND assign(3,0)=KIND assign(4,0)=KIND assign(5,0)=KIND "
            + "assign(6,0)=KIND assign(0,0)=1");
        l.told("NO: DEAD, aboard, not at that PLACE, not wanted, or no hand free.");
        l.run("DEAD", "ship(0,1) 2*man(0,0,0,20,0) run(2) master(0,63,9,1) dies(0) assign(0,0)=NO assign(1,0)=1");
        l.run("aboard", BOTH + "master(0,63,9,1) assign(1,0)=NO assign(0,0)=1");
        l.run("not at that PLACE", LANDED + "master(5,63,9,1) master(0,63,9,1) assign(0,0)=NO assign(0,1)=1");
        l.run("not wanted", "ship(0,1) man(0,0,5,20,0) run(2) master(0,31,9,1) master(0,32,9,1) assign(0,0)=NO assign(0,1)=1");
        l.run("no hand free", "ship(0,1) 3*man(0,0,0,20,0) run(2) master(0,63,2,1) 2*assign(#,0)=1 assign(2,0)=NO back(1) assign(2,0)=1");

        l.part("Promise 24");
        l.told("An ASSIGNED one is BOUND again: to whom he was ASSIGNED.");
        l.run("to the least and to the greatest", "ship(0,1) 2*man(0,0,0,20,0) run(2) 6*master(0,63,1,1) assign(0,0) assign(1,5) run(1) back(0)=0 "
            + "back(1)=5 told(1,5)=1 told(1,6)=0 told(1,7)=3 has(5,4)=0");
        l.told("BAD;");
        l.range("man", "ship(0,1) 2*man(0,0,0,20,0) run(2) master(0,63,2,1) 2*assign(#,0)", "back(?)=0", 0, 1);
        l.told("KIND: he is not;");
        l.run("all other KINDS", ALL_KINDS + "back(0)=KIND back(2)=KIND back(3)=KIND back(4)=KIND back(5)=KIND back(6)=KIND back(7)=KIND "
            + "back(1)=1 back(1)=KIND");
        l.told("NO: DEAD.");
        l.run("DEAD", LANDED + "master(0,63,1,1) assign(0,0) dies(0) back(0)=NO told(0,5)=2");
    }

    private static void mercy(Ledger l) {
        l.part("Promise 25");
        l.told("A TICKET for the PLACE where he is: 1.");
        l.run("of BOUND", "ship(5,1) man(0,0,0,20,0) run(2) 'ticket 1'@0 run(1) ticket(0)=1 told(0,5)=4 told(0,6)=5 told(0,7)=3 told(0,4)=5");
        l.run("of ASSIGNED", LANDED + "'ticket 1'@0 master(0,63,1,1) assign(0,0) ticket(0)=1 told(0,5)=4 told(0,6)=0 has(0,4)=0");
        l.told("BAD;");
        l.range("man", "ship(0,1) 2*man(0,0,0,20,0) run(2) 'ticket 1'@0", "ticket(?)=1", 0, 1);
        l.told("KIND: he is neither BOUND itself nor ASSIGNED;");
        l.run("all other KINDS", ALL_KINDS + "ticket(2)=KIND ticket(3)=KIND ticket(4)=KIND ticket(5)=KIND ticket(6)=KIND ticket(0)=1 ticket(1)=1");
        l.told("NO: DEAD, aboard, or ticket is 0.");
        l.run("DEAD", LANDED + "'ticket 1'@0 dies(0) ticket(0)=NO");
        l.run("aboard", ABOARD + "'ticket 1'@0 ticket(0)=NO run(1) ticket(0)=NO run(1) ticket(0)=1");
        l.run("ticket is 0", LANDED + "ticket(0)=NO 'ticket 0'@0 ticket(0)=NO 'ticket 1'@3 ticket(0)=NO run(1) ticket(0)=1");

        l.part("Promise 26");
        l.told("A PARDON (on a condition 1, without 0): 1.");
        l.run("on a condition", LANDED + "'pardon 1'@0 run(1) pardon(0,1)=1 told(0,5)=5 told(0,6)=1 told(0,7)=3 told(0,4)=0");
        l.run("without", LANDED + "'pardon 1'@0 pardon(0,0)=1 told(0,6)=0");
        l.run("of an ASSIGNED one: the hand is free", LANDED + "'pardon 1'@0 master(0,63,1,1) assign(0,0) pardon(0,0)=1 has(0,4)=0");
        l.told("BAD;");
        l.range("man", "ship(0,1) 2*man(0,0,0,20,0) run(2) 'pardon 1'@0", "pardon(?,0)=1", 0, 1);
        l.range("condition", LANDED + "'pardon 1'@0", "pardon(0,?)=1", 0, 1);
        l.told("KIND: not of KINDS 1 .. 4;");
        l.run("KINDS 5, 6, 7", ALL_KINDS + "pardon(4,0)=KIND pardon(6,0)=KIND pardon(5,0)=KIND 4*pardon(#,0)=1");
        l.told("NO: DEAD, aboard, or pardon is 0.");
        l.run("DEAD", LANDED + "'pardon 1'@0 dies(0) pardon(0,0)=NO");
        l.run("aboard", ABOARD + "'pardon 1'@0 pardon(0,0)=NO run(1) pardon(0,0)=NO run(1) pardon(0,0)=1");
        l.run("pardon is 0", LANDED + "pardon(0,0)=NO 'pardon 0'@0 pardon(0,0)=NO 'pardon 1'@3 pardon(0,0)=NO run(1) pardon(0,0)=1");
    }

    private static void running(Ledger l) {
        l.part("Promise 27");
        l.told("He RUNS: 1.");
        l.run("from the PLACE, since then", "ship(5,1) man(0,0,0,20,0) run(3) runs(0)=1 told(0,5)=7 told(0,6)=5 told(0,7)=3 told(0,4)=NONE");
        l.run("the hand is free", LANDED + "master(0,63,1,1) assign(0,0) runs(0)=1 has(0,4)=0");
        l.told("BAD;");
        l.range("man", "ship(0,1) 2*man(0,0,0,20,0) run(2)", "runs(?)=1", 0, 1);
        l.told("KIND: not of KINDS 1 .. 4;");
        l.run("KINDS 5, 6, 7", ALL_KINDS + "runs(4)=KIND runs(6)=KIND runs(5)=KIND 4*runs(#)=1");
        l.told("NO: DEAD, or aboard.");
        l.run("DEAD", LANDED + "dies(0) runs(0)=NO");
        l.run("aboard", ABOARD + "runs(0)=NO run(1) runs(0)=NO run(1) runs(0)=1");

        l.part("Promise 28");
        l.told("He is CAUGHT: the WEEK up to which he is IRONED.");
        l.run("at once", LANDED + "runs(0) caught(0)=6 told(0,5)=3 told(0,6)=6 told(0,7)=2 told(0,4)=0");
        l.run("beyond the last WEEK", LANDED + "runs(0) 'irons 99'@0 33*run(60) run(17)=1999 caught(0)=2098");
        l.told("BAD;");
        l.range("man", "ship(0,1) 2*man(0,0,0,20,0) run(2) 2*runs(#)", "caught(?)=6", 0, 1);
        l.told("KIND: not RUN;");
        l.run("all other KINDS", ALL_KINDS + "5*caught(#)=KIND caught(6)=KIND caught(7)=KIND caught(5)=6 caught(5)=KIND");
        l.told("NO: DEAD.");
        l.run("DEAD", LANDED + "runs(0) dies(0) caught(0)=NO told(0,5)=7 told(0,4)=NONE count(13)=0");
    }

    private static void weeks(Ledger l) {
        l.part("Promise 29");
        l.told("SEED becomes v: what it was.");
        l.run("what it was", "seed(65535)=0 count(22)=65535 seed(0)=65535 seed(1)=0");
        l.told("BAD.");
        l.range("v", "seed(7)", "seed(?)=7", 0, 65535);

        l.part("Promise 30");
        l.told("n (1 .. 60) WEEKS go by: the WEEK.");
        l.run("one, sixty", "run(1)=1 run(60)=61 count(21)=61");
        l.run("each of them", LANDED + "seed(0) run(3) count(22)=31223");
        l.told("BAD;");
        l.run("n", "run(0)=BAD run(1)=1 run(60)=61 run(61)=BAD run(-1)=BAD run(MIN)=BAD run(MAX)=BAD count(21)=61");
        l.told("FULL: it would be above 1999.");
        l.run("to 1999, not to 2000", "32*run(60) run(20)=1940 run(60)=FULL run(59)=1999 run(1)=FULL run(60)=FULL count(21)=1999");
    }
}
