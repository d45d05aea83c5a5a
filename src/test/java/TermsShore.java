/** The sentences of the Terms, ahead of part 1 and in part 1: refusals, weeks, men, ships, states, masters, marks. */
final class TermsShore {
    /** Man 0, aboard of ship 0 that lands at place 0 in week 1. */
    static final String ABOARD = "ship(0,1) man(0,0,0,20,0) ";
    /** He has landed; week 2 is open, and he has been drawn for once. */
    static final String LANDED = ABOARD + "run(2) ";
    /** Week 1999 is open. */
    static final String LAST_WEEK = "33*run(60) run(19)=1999 ";
    /** At place 2 one each: 0 BOUND, 1 ASSIGNED to 1, 2 IRONED up to 6, 3 TICKET, 4 PARDON, 5 RUN, 6 FREE; 7 is aboard. */
    static final String ALL_KINDS = "ship(2,1) ship(0,90) 7*man(0,0,0,20,0) man(1,0,0,20,0) term(6,1) run(2) "
        + "2*master(2,63,9,1) 'ticket 1'@0 'pardon 1'@0 assign(1,1) runs(2) caught(2) ticket(3) pardon(4,1) runs(5) ";

    private TermsShore() { }

    static void tell(Ledger l) {
        l.part("What it is");
        calls(l);
        l.part("Terms");
        numbers(l);
        TermsRefused.tell(l);
        l.part("Terms 1");
        weeksAndMen(l);
        states(l);
        mastersAndMarks(l);
    }

    private static void calls(Ledger l) {
        l.told("An object is used for at most 512 calls after it has been made; what later calls answer is free.");
        l.run("the 512th", "511*count(21)=0 run(1)=1");
        l.run("all of them change something", "512*seed(#+1)=#");
        l.run("all of them refused", "ship(0,1) 14*man(0,0,0,20,0) 496*man(0,0,0,20,0) count(1)=14");
        l.run("the dearest ones", LANDED + "13*'stop e'@0 'stop !!!!!!!!((((((((e))))))))'@0=13 454*reach(0,99)=1 run(1)=3");
    }

    private static void numbers(Ledger l) {
        l.told("All numbers are whole; / cuts towards 0.");
        l.run("both above 0", "'ticket w/m'@0 rules(0,7,2,0)=3 rules(0,8,2,0)=4 rules(0,1,2,0)=0");
        l.run("the left below 0", "'ticket w/m'@0 rules(0,-7,2,0)=-3 rules(0,-8,2,0)=-4 rules(0,-1,2,0)=0");
        l.run("the right below 0", "'ticket w/m'@0 rules(0,7,-2,0)=-3 rules(0,1,-2,0)=0");
        l.run("both below 0", "'ticket w/m'@0 rules(0,-7,-2,0)=3");
        l.told("NONE: there is none.");
        l.run("no place, no landing", ABOARD + "told(0,4)=NONE told(0,10)=NONE run(2) told(0,4)=0 told(0,10)=1");
        l.run("no text", "why(0)=NONE 'ticket 1'@0 why(0)=0");
        l.run("no plan", "3*way(0,#,1,5) plan(1,4,0)=NONE plan(1,5,0)=0");
    }

    private static void weeksAndMen(Ledger l) {
        l.told("WEEKS are numbered; the one that is open is 0 at first (1999 at most).");
        l.run("0 at first", "count(21)=0 keep()=0 run(1)=1 count(21)=1");
        l.run("1999 at most", LAST_WEEK + "count(21)=1999 run(1)=FULL count(21)=1999");
        l.told("MEN, 14 at most, numbered from 0:");
        l.run("fourteen", "ship(0,1) 14*man(0,0,0,20,0)=# man(0,0,0,20,0)=FULL count(1)=14 told(13,0)=0 told(14,0)=BAD");
        l.run("the dead are men, too", "ship(0,1) 14*man(0,0,0,20,0)=# dies(3) man(0,0,0,20,0)=FULL count(1)=14");
        l.told("a DEED 0 .. 7, a TRADE 0 .. 5, an AGE 10 .. 70, SKIN (bits 0 .. 255), a TERM 1 .. 999 WEEKS;");
        l.range("deed", "ship(0,1)", "man(0,?,0,20,0)=0", 0, 7);
        l.range("trade", "ship(0,1)", "man(0,0,?,20,0)=0", 0, 5);
        l.range("age", "ship(0,1)", "man(0,0,0,?,0)=0", 10, 70);
        l.range("skin", "ship(0,1)", "man(0,0,0,20,?)=0", 0, 255);
        l.range("term", ABOARD, "term(0,?)=364", 1, 999);
        l.run("the least are kept", "ship(0,1) man(0,0,0,10,0) told(0,0)=0 told(0,1)=0 told(0,2)=10 told(0,3)=0 term(0,1) term(0,1)=1");
        l.run("the greatest are kept", "ship(0,1) man(0,7,5,70,255) told(0,0)=7 told(0,1)=5 told(0,2)=70 told(0,3)=255 term(0,999) term(0,1)=999");
        l.told("aboard (of a SHIP), at a PLACE 0 .. 5, or DEAD.");
        l.range("place", "", "ship(?,1)=0", 0, 5);
        l.run("the least and the greatest place", "ship(0,1) ship(5,1) man(0,0,0,20,0) man(1,0,0,20,0) run(2) told(0,4)=0 told(1,4)=5");
        l.run("just one of these", "ship(0,1) 3*man(0,0,0,20,0) dies(2) count(3)=2 count(2)=1 run(2) count(3)=0 count(2)=1 "
            + "told(0,4)=0 told(2,4)=NONE dies(0) told(0,4)=NONE count(2)=2");
        l.told("SHIPS, 8 at most, numbered from 0, each lands at a PLACE in a WEEK (later than the one in which it is told, 1999 at most).");
        l.run("eight", "8*ship(0,1)=# ship(0,1)=FULL count(0)=8 man(7,0,0,20,0)=0 man(8,0,0,20,0)=BAD");
        l.run("landed ones are SHIPS, too", "8*ship(0,1) run(5) ship(0,9)=FULL");
        l.range("week", "", "ship(0,?)=0", 1, 1999);
        l.range("week, later", "run(7)", "ship(0,?)=0", 8, 1999);
        l.run("not ahead of its week", "ship(3,2) man(0,0,0,20,0) run(2) told(0,10)=NONE told(0,4)=NONE run(1) told(0,10)=2 told(0,4)=3");
        l.run("the last that can be told", "33*run(60) run(18)=1998 ship(0,1999)=0 run(1) ship(0,1999)=BAD ship(0,2000)=BAD");
    }

    private static void states(Ledger l) {
        l.told("A man has one STATE, of KINDS: 0 STATE; 1 BOUND, 5 PARDON, 6 FREE, under STATE; "
            + "2 ASSIGNED, 3 IRONED, 4 TICKET, 7 RUN, under BOUND (all are STATES);");
        l.run("his own kind", ALL_KINDS + "as(0,1)=0 as(1,2)=1 as(2,3)=6 as(3,4)=2 as(4,5)=1 as(5,7)=2 as(6,6)=0");
        l.run("all are STATES", ALL_KINDS + "as(0,0)=0 as(1,0)=1 as(2,0)=6 as(3,0)=2 as(4,0)=1 as(5,0)=2 as(6,0)=0 as(7,0)=0");
        l.run("under BOUND", ALL_KINDS + "as(0,1)=0 as(1,1)=1 as(2,1)=6 as(3,1)=2 as(5,1)=2 as(7,1)=0");
        l.run("not under BOUND", ALL_KINDS + "as(4,1)=KIND as(6,1)=KIND");
        l.run("none is under ASSIGNED", ALL_KINDS + "as(0,2)=KIND as(2,2)=KIND as(3,2)=KIND as(4,2)=KIND as(5,2)=KIND as(6,2)=KIND");
        l.run("nor under IRONED", ALL_KINDS + "as(0,3)=KIND as(1,3)=KIND as(3,3)=KIND as(4,3)=KIND as(5,3)=KIND as(6,3)=KIND");
        l.run("nor under TICKET", ALL_KINDS + "as(0,4)=KIND as(1,4)=KIND as(2,4)=KIND as(4,4)=KIND as(5,4)=KIND as(6,4)=KIND");
        l.run("nor under PARDON", ALL_KINDS + "as(0,5)=KIND as(1,5)=KIND as(2,5)=KIND as(3,5)=KIND as(5,5)=KIND as(6,5)=KIND");
        l.run("nor under FREE", ALL_KINDS + "as(0,6)=KIND as(1,6)=KIND as(2,6)=KIND as(3,6)=KIND as(4,6)=KIND as(5,6)=KIND");
        l.run("nor under RUN", ALL_KINDS + "as(0,7)=KIND as(1,7)=KIND as(2,7)=KIND as(3,7)=KIND as(4,7)=KIND as(6,7)=KIND");
        l.told("each with a number a and the WEEK since when it is:");
        l.run("as it began", ALL_KINDS + "told(0,7)=1 told(5,7)=2 told(1,7)=2 told(2,7)=2 told(3,7)=2 told(4,7)=2 told(6,7)=1 told(7,7)=0");
        l.run("not as it is asked", ALL_KINDS + "run(2) told(1,7)=2 told(3,7)=2 told(5,7)=2 told(0,7)=1");
        l.told("BOUND a 0; ASSIGNED the MASTER; IRONED the WEEK up to which (that one not); TICKET the PLACE;");
        l.run("BOUND again", ALL_KINDS + "back(1)=1 told(1,6)=0");
        l.run("the greatest MASTER", LANDED + "6*master(0,63,1,1) assign(0,5) told(0,6)=5");
        l.run("the least MASTER", LANDED + "6*master(0,63,1,1) assign(0,0) told(0,6)=0");
        l.run("up to week 4", LANDED + "'irons 2'@0 runs(0) caught(0)=4 told(0,6)=4 run(1) told(0,5)=3 run(1)=4 told(0,5)=1 told(0,6)=0");
        l.run("TICKETS of the least and the greatest PLACE",
            "ship(0,1) ship(5,1) man(0,0,0,20,0) man(1,0,0,20,0) run(2) 'ticket 1'@0 2*ticket(#)=1 told(0,6)=0 told(1,6)=5");
        l.told("PARDON 0, or 1: on a condition; FREE 0; RUN where he ran from (the PLACE; he is at none then).");
        l.run("without", LANDED + "'pardon 1'@0 pardon(0,0) told(0,5)=5 told(0,6)=0");
        l.run("on a condition", LANDED + "'pardon 1'@0 pardon(0,1) told(0,5)=5 told(0,6)=1");
        l.run("FREE, who was ASSIGNED to 1", ABOARD + "term(0,2) run(2) 2*master(0,63,1,1) assign(0,1) run(1) told(0,5)=6 told(0,6)=0");
        l.run("RUN from the greatest PLACE", "ship(5,1) man(0,0,0,20,0) run(2) told(0,4)=5 runs(0) told(0,6)=5 told(0,4)=NONE");
        l.run("RUN from the least PLACE", LANDED + "runs(0) told(0,6)=0 told(0,4)=NONE");
        l.told("As he is told he is BOUND, aboard; his TERM begins as he lands (BOUND anew, since that WEEK).");
        l.run("aboard", "run(3) ship(0,9) man(0,0,0,20,0) told(0,5)=1 told(0,6)=0 told(0,7)=3 told(0,4)=NONE count(3)=1 count(5)=1");
        l.run("no TERM aboard", "ship(0,5) man(0,0,0,20,0) term(0,2) run(5) told(0,5)=1 told(0,7)=0 "
            + "run(1) told(0,5)=1 told(0,7)=5 told(0,10)=5 run(1) told(0,5)=6");
        l.told("TERM is over, when as many WEEKS have gone by since then.");
        l.run("the least", ABOARD + "term(0,1) run(1) told(0,5)=1 run(1) told(0,5)=6 told(0,7)=1");
        l.run("two", ABOARD + "term(0,2) run(2) told(0,5)=1 run(1) told(0,5)=6");
        l.run("364, if none is told", ABOARD + "6*run(60) run(4)=364 told(0,5)=1 run(1)=365 told(0,5)=6 told(0,7)=364");
        l.run("the greatest", ABOARD + "term(0,999) 16*run(60) run(39)=999 told(0,5)=1 run(1) told(0,5)=6");
    }

    private static void mastersAndMarks(Ledger l) {
        l.told("MASTERS, 6 at most, numbered from 0: a PLACE, TRADES that they want (bits 0 .. 63), "
            + "HANDS 0 .. 9 (how many at most are ASSIGNED to them), a WAGE 0 .. 99.");
        l.run("six", "6*master(0,0,0,0)=# master(0,0,0,0)=FULL count(12)=6 has(5,0)=0 has(6,0)=BAD");
        l.range("place", "", "master(?,1,1,1)=0", 0, 5);
        l.range("trades", "", "master(1,?,1,1)=0", 0, 63);
        l.range("hands", "", "master(1,1,?,1)=0", 0, 9);
        l.range("wage", "", "master(1,1,1,?)=0", 0, 99);
        l.run("no hand", LANDED + "master(0,63,0,1) assign(0,0)=NO has(0,4)=0");
        l.run("one hand", "ship(0,1) 2*man(0,0,0,20,0) run(2) master(0,63,1,1) assign(0,0)=1 assign(1,0)=NO has(0,4)=1");
        l.run("nine hands", "ship(0,1) 10*man(0,0,0,20,0) run(2) master(0,63,9,1) 9*assign(#,0)=1 assign(9,0)=NO has(0,4)=9");
        l.run("all TRADES but one", "ship(0,1) man(0,0,0,20,0) man(0,0,5,20,0) run(2) master(0,62,9,1) master(0,31,9,1) "
            + "assign(0,0)=NO assign(1,1)=NO assign(0,1)=1 assign(1,0)=1");
        l.run("no TRADE", LANDED + "master(0,0,9,1) assign(0,0)=NO");
        l.run("the least and the greatest WAGE", "ship(0,1) 2*man(0,0,0,20,0) run(2) master(0,1,1,0) master(0,1,1,99) 2*assign(#,#)=1 run(1) "
            + "told(0,9)=0 told(1,9)=99");
        l.told("MARKS, 40 at most, numbered from 0: of a man, in a WEEK, for an OFFENCE 0 .. 3; or VOID (it was another's).");
        l.run("forty", LANDED + "40*mark(0,0)=# mark(0,0)=FULL count(13)=40 markTold(39,0)=0 markTold(40,0)=BAD");
        l.run("VOID ones take their room", LANDED + "40*mark(0,0) 40*voids(#,1)=0 mark(0,0)=FULL count(13)=40");
        l.range("offence", LANDED, "mark(0,?)=0", 0, 3);
        l.run("as it was told", "ship(0,1) 2*man(0,0,0,20,0) run(2) mark(1,3) run(1) mark(0,0) markTold(0,0)=1 markTold(0,1)=2 "
            + "markTold(0,2)=3 markTold(1,0)=0 markTold(1,1)=3 markTold(1,2)=0 markTold(1,3)=0");
        l.told("HAS of a man: how many MARKS of his are not VOID.");
        l.run("none, all, some", "ship(0,1) 2*man(0,0,0,20,0) run(2) told(0,8)=0 2*mark(0,1) mark(1,1) told(0,8)=2 told(1,8)=1 "
            + "voids(0,1) told(0,8)=1 voids(1,1) told(0,8)=0 voids(0,0) told(0,8)=1 told(1,8)=1");
        l.run("all forty", LANDED + "40*mark(0,1) told(0,8)=40");
    }
}
