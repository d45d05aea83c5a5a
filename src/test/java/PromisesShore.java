/** The sentences of promises 1 to 17. */
final class PromisesShore {
    private static final String ABOARD = TermsShore.ABOARD, LANDED = TermsShore.LANDED, ALL_KINDS = TermsShore.ALL_KINDS;

    private PromisesShore() { }

    static void tell(Ledger l) {
        newObject(l);
        ships(l);
        men(l);
        masters(l);
        tape(l);
        texts(l);
    }

    private static void newObject(Ledger l) {
        l.part("Promise 1");
        l.told("As told; nobody.");
        l.run("nobody, nothing", "23*count(#)=0");
        l.run("no first of any", "told(0,0)=BAD has(0,0)=BAD of(0,0)=BAD markTold(0,0)=BAD letterTold(0,0)=BAD may(0,0)=BAD");
        l.run("as told", "6*store(#,0)=0 6*hungry(#)=0 5*why(#)=NONE 7*party(#,0,0)=0 4*read(#,0)=NOTHING again()=NO");
    }

    private static void ships(Ledger l) {
        l.part("Promise 2");
        l.told("One more SHIP: its number.");
        l.run("0, then 1", "ship(0,1)=0 ship(0,1)=1 count(0)=2");
        l.told("BAD;");
        l.range("place", "", "ship(?,5)=0", 0, 5);
        l.range("week", "", "ship(0,?)=0", 1, 1999);
        l.range("week, of week 5", "run(5)", "ship(0,?)=0", 6, 1999);
        l.told("FULL.");
        l.run("the eighth and the ninth", "7*ship(0,1) ship(0,1)=7 ship(0,1)=FULL count(0)=8");
    }

    private static void men(Ledger l) {
        l.part("Promise 3");
        l.told("One more man, aboard of a SHIP (TERM 364): his number.");
        l.run("0, then 1", "ship(0,1) man(0,0,0,20,0)=0 man(0,0,0,20,0)=1 count(1)=2 count(3)=2");
        l.run("TERM 364", ABOARD + "term(0,5)=364");
        l.run("of that SHIP", "ship(1,2) ship(2,1) man(1,0,0,20,0) man(0,0,0,20,0) run(2) told(0,4)=2 told(1,4)=NONE run(1) told(1,4)=1");
        l.told("BAD: also a SHIP that has landed;");
        l.range("ship", "3*ship(0,1)", "man(?,0,0,20,0)=0", 0, 2);
        l.range("deed", "ship(0,1)", "man(0,?,0,20,0)=0", 0, 7);
        l.range("trade", "ship(0,1)", "man(0,0,?,20,0)=0", 0, 5);
        l.range("age", "ship(0,1)", "man(0,0,0,?,0)=0", 10, 70);
        l.range("skin", "ship(0,1)", "man(0,0,0,20,?)=0", 0, 255);
        l.run("in the WEEK in which it lands, and behind it", "ship(0,3) run(3) man(0,0,0,20,0)=0 run(1) man(0,0,0,20,0)=BAD told(0,10)=3");
        l.run("no SHIP", "man(0,0,0,20,0)=BAD");
        l.told("FULL.");
        l.run("the fourteenth and the next", "ship(0,1) 13*man(0,0,0,20,0) man(0,0,0,20,0)=13 man(0,0,0,20,0)=FULL count(1)=14");

        l.part("Promise 4");
        l.told("TERM of a man (1 .. 999; 364 at first) becomes v: what it was.");
        l.run("at first, and then", ABOARD + "term(0,999)=364 term(0,1)=999 term(0,7)=1");
        l.run("of that man", ABOARD + "man(0,0,0,20,0) term(1,7)=364 term(0,7)=364 term(1,7)=7");
        l.told("BAD;");
        l.range("man", ABOARD + "man(0,0,0,20,0)", "term(?,5)=364", 0, 1);
        l.range("v", ABOARD, "term(0,?)=364", 1, 999);
        l.told("NO: he has landed.");
        l.run("in the WEEK of it, and behind it", ABOARD + "run(1) term(0,5)=364 run(1) term(0,6)=NO");
        l.run("also one who RUNS, or is DEAD", LANDED + "runs(0) term(0,6)=NO dies(0) term(0,6)=NO");

        l.part("Promise 5");
        l.told("Of a man: what 0 DEED, 1 TRADE, 2 AGE, 3 SKIN, 4 the PLACE (NONE: aboard, or DEAD), 5 KIND of his STATE, 6 its a, "
            + "7 the WEEK since when it is, 8 MARKS that he HAS, 9 BANK, 10 the WEEK in which he landed (NONE), 11 whether DEAD (1, 0).");
        l.run("aboard", "run(1) ship(4,3) man(0,3,2,33,77) told(0,0)=3 told(0,1)=2 told(0,2)=33 told(0,3)=77 told(0,4)=NONE told(0,5)=1 told(0,6)=0 "
            + "told(0,7)=1 told(0,8)=0 told(0,9)=0 told(0,10)=NONE told(0,11)=0");
        l.run("landed, and with all", "ship(4,3) man(0,3,2,33,77) run(4) master(0,4,1,7) master(4,4,1,8) mark(0,0) assign(0,1) run(2) told(0,4)=4 "
            + "told(0,5)=2 "
            + "told(0,6)=1 told(0,7)=4 told(0,8)=1 told(0,9)=16 told(0,10)=3 told(0,11)=0");
        l.run("DEAD", LANDED + "told(0,4)=0 told(0,11)=0 dies(0) told(0,4)=NONE told(0,11)=1 told(0,10)=1");
        l.run("DEAD aboard", ABOARD + "dies(0) run(2) told(0,4)=NONE told(0,10)=NONE told(0,11)=1");
        l.told("BAD.");
        l.range("man", ABOARD + "man(0,0,0,20,0)", "told(?,0)=0", 0, 1);
        l.range("what", LANDED, "told(0,?)=0", 0, 11);

        l.part("Promise 6");
        l.told("STATE of a man as one of a KIND: its a.");
        l.run("its own, and those above it", ALL_KINDS + "as(2,3)=6 as(2,1)=6 as(2,0)=6");
        l.run("DEAD, it stays", ALL_KINDS + "dies(1) as(1,2)=1 as(1,3)=KIND");
        l.told("BAD: man, kind;");
        l.range("man", ABOARD + "man(0,0,0,20,0)", "as(?,1)=0", 0, 1);
        l.run("kind", ABOARD + "as(0,-1)=BAD as(0,0)=0 as(0,7)=KIND as(0,8)=BAD as(0,MIN)=BAD as(0,MAX)=BAD");
        l.told("KIND: it is not of that KIND, nor of one under it.");
        l.run("one above, one beside", ALL_KINDS + "as(0,2)=KIND as(4,1)=KIND as(4,5)=1 as(4,6)=KIND as(6,7)=KIND as(6,6)=0");

        l.part("Promise 7");
        l.told("A man is DEAD (his STATE stays; he is ASSIGNED to nobody for hands): 1.");
        l.run("DEAD", LANDED + "dies(0)=1 told(0,11)=1 count(2)=1 count(5)=0");
        l.run("his STATE stays", ALL_KINDS + "8*dies(#)=1 told(0,5)=1 told(1,5)=2 told(1,6)=1 told(1,7)=2 told(2,5)=3 told(3,5)=4 told(4,5)=5 "
            + "told(5,5)=7 told(6,5)=6 told(7,5)=1 "
            + "run(60) told(0,5)=1 told(1,5)=2 told(2,5)=3 told(3,5)=4 told(5,5)=7");
        l.run("to nobody for hands", LANDED + "ship(0,3) man(1,0,0,20,0) run(2) master(0,63,1,1) assign(0,0)=1 assign(1,0)=NO dies(0) has(0,4)=0 "
            + "assign(1,0)=1 has(0,4)=1");
        l.told("BAD;");
        l.range("man", ABOARD + "man(0,0,0,20,0)", "dies(?)=1", 0, 1);
        l.told("NO: he is.");
        l.run("twice", ABOARD + "dies(0)=1 dies(0)=NO count(2)=1");
    }

    private static void masters(Ledger l) {
        l.part("Promise 8");
        l.told("One more MASTER: the number.");
        l.run("0, then 1", "master(0,0,0,0)=0 master(5,63,9,99)=1 count(12)=2");
        l.told("BAD;");
        l.range("place", "", "master(?,1,1,1)=0", 0, 5);
        l.range("trades", "", "master(1,?,1,1)=0", 0, 63);
        l.range("hands", "", "master(1,1,?,1)=0", 0, 9);
        l.range("wage", "", "master(1,1,1,?)=0", 0, 99);
        l.told("FULL.");
        l.run("the sixth and the seventh", "5*master(0,0,0,0) master(0,0,0,0)=5 master(0,0,0,0)=FULL count(12)=6");

        l.part("Promise 9");
        l.told("Of a MASTER: what 0 PLACE, 1 TRADES, 2 HANDS, 3 WAGE, 4 how many are ASSIGNED to the MASTER (DEAD ones not).");
        l.run("the greatest", "master(5,63,9,99) has(0,0)=5 has(0,1)=63 has(0,2)=9 has(0,3)=99 has(0,4)=0");
        l.run("the least", "master(0,0,0,0) 5*has(0,#)=0");
        l.run("ASSIGNED to that one", "ship(0,1) 4*man(0,0,0,20,0) run(2) 2*master(0,63,9,1) 3*assign(#,1) assign(3,0) has(0,4)=1 has(1,4)=3 "
            + "back(0) has(1,4)=2");
        l.run("DEAD ones not", LANDED + "master(0,63,9,1) assign(0,0) has(0,4)=1 dies(0) has(0,4)=0");
        l.told("BAD.");
        l.range("master", "2*master(0,0,0,0)", "has(?,0)=0", 0, 1);
        l.range("what", "master(0,0,0,0)", "has(0,?)=0", 0, 4);

        l.part("Promise 10");
        l.told("STORE of a PLACE becomes v (0 .. 9999): what it was.");
        l.run("what it was", "store(3,9999)=0 store(3,0)=9999 store(3,5)=0 store(2,0)=0 store(4,0)=0");
        l.told("BAD.");
        l.range("place", "6*store(#,7)", "store(?,1)=7", 0, 5);
        l.range("v", "store(0,7)", "store(0,?)=7", 0, 9999);

        l.part("Promise 11");
        l.told("Whether a PLACE was HUNGRY in the WEEK that went by last: 1, 0.");
        l.run("ahead of all WEEKS", "6*hungry(#)=0");
        l.run("the last", LANDED + "hungry(0)=1 store(0,2) hungry(0)=1 run(1) hungry(0)=0 store(0,1) hungry(0)=0 run(1) hungry(0)=1");
        l.run("the last of two", LANDED + "store(0,2) run(2) hungry(0)=1 store(0,9) dies(0) run(2) hungry(0)=0");
        l.told("BAD.");
        l.range("place", "", "hungry(?)=0", 0, 5);
    }

    private static void tape(Ledger l) {
        l.part("Promise 12");
        l.told("Twelve bytes come to THE TAPE, the highest of each number first: how many it has.");
        l.run("how many", "feed(0,0,0)=12 feed(MAX,MIN,-1)=24 count(20)=24");
        // 'stop 1' with the bytes 0x73746f70 and 0x20310000 behind one another.
        l.run("the highest first", "feed(1937010544,540082176,0)=12 trim(6)=6 text(0)=0 of(0,0)=4");
        l.run("the third number, too", "feed(538976288,538976288,1937010544) feed(538976288,825307441,0) trim(20)=20 text(0)=0 "
            + "rules(4,9999,0,0)=1111");
        l.run("bytes above 127", "feed(-1,0,0) trim(1) text(0)=-100 feed(1937010544,553648127,0) trim(6)=6 text(0)=-105");
        l.told("FULL: it would have more than 96.");
        l.run("96 just goes", "7*feed(0,0,0) feed(0,0,0)=96 feed(0,0,0)=FULL count(20)=96");
        l.run("with 85, with 84", "8*feed(0,0,0) trim(85) feed(0,0,0)=FULL count(20)=85 trim(84) feed(0,0,0)=96");

        l.part("Promise 13");
        l.told("THE TAPE keeps its first n bytes: n.");
        l.run("fewer", "feed(1937010544,540082176,0) trim(6)=6 count(20)=6 text(0)=0");
        l.run("all, none", "feed(0,0,0) trim(12)=12 count(20)=12 trim(0)=0 count(20)=0 trim(0)=0");
        l.run("its first", "feed(1937010544,540094769,0) trim(7) trim(6) feed(0,0,0) trim(6) text(0)=0 rules(4,9999,0,0)=1");
        l.told("BAD.");
        l.range("n", "feed(0,0,0)", "trim(?)", 0, 12);
        l.range("n, of an empty one", "", "trim(?)", 0, 0);
        l.range("n, of a full one", "8*feed(0,0,0)", "trim(?)", 0, 96);
    }

    private static void texts(Ledger l) {
        l.part("Promise 14");
        l.told("THE TAPE is a TEXT from a WEEK (0 .. 1999) on: its number.");
        l.run("0, then 1", "'stop 1'@0=0 'stop 2'@1999=1 count(14)=2 of(0,1)=0 of(1,1)=1999");
        l.run("a WEEK that went by", "run(9) 'stop 1'@3=0 why(4)=0");
        l.told("BAD (asked first; THE TAPE is used up, too);");
        l.range("week", "feed(1937010544,540082176,0) trim(6)", "text(?)=0", 0, 1999);
        l.run("asked first", "'zzz'@2000=BAD 'zzz'@1999=-100 'zzz'@-1=BAD 'zzz'@0=-100");
        l.run("used up, too", "'stop 1'@2000=BAD count(20)=0 text(0)=-100");
        l.told("-100 less the place of its FAULT;");
        l.run("the first place and the last", "''@0=-100 'z'@0=-100 '" + " ".repeat(95) + "z'@0=-195 '" + " ".repeat(96) + "'@0=-196");
        l.run("no TEXT comes of it", "'stop'@0=-104 count(14)=0 'stop 1'@0=0");
        l.told("FULL.");
        l.run("the fourteenth and the next", "13*'stop 1'@0 'stop 1'@0=13 'stop 1'@0=FULL count(14)=14 why(4)=13");

        l.part("Promise 15");
        l.told("Of a TEXT: what 0 KEY (0 .. 4, as told), 1 the WEEK, 2 how many NUMBERS and NAMES it has.");
        l.run("KEY", "'ticket 1'@0 'pardon 1'@0 'irons 1'@0 'fear 1'@0 'stop 1'@0 5*of(#,0)=#");
        l.run("the WEEK", "'stop 1'@0 'stop 1'@7 'stop 1'@1999 of(0,1)=0 of(1,1)=7 of(2,1)=1999");
        l.run("the fewest", "'stop 1'@0 'stop e'@0 'stop !(!(e))'@0 3*of(#,2)=1");
        l.run("more, and equal ones", "'stop e+e*12-(d/9999)'@0 of(0,2)=5");
        l.run("the most", "'stop e" + "+0".repeat(45) + "'@0 of(0,2)=46");
        l.told("BAD.");
        l.range("text", "2*'ticket 1'@0", "of(?,0)=0", 0, 1);
        l.range("what", "'stop 1'@0", "of(0,?)", 0, 2);

        l.part("Promise 16");
        l.told("WHY: the TEXT that counts for a KEY now.");
        l.run("now", "'fear 1'@2 'fear 2'@0 why(3)=1 run(1) why(3)=1 run(1) why(3)=0");
        l.told("BAD;");
        l.range("key", "'ticket 1'@0 'pardon 1'@0 'irons 1'@0 'fear 1'@0 'stop 1'@0", "why(?)", 0, 4);
        l.told("NONE.");
        l.run("no TEXT", "5*why(#)=NONE");
        l.run("none in force", "'fear 1'@1 why(3)=NONE run(1) why(3)=0");
        l.run("none of that KEY", "'fear 1'@0 why(2)=NONE why(4)=NONE");

        l.part("Promise 17");
        l.told("THE RULE of a KEY now, for told numbers in the order in which its NAMES stand above (others do not matter; of irons o, m; of stop e, d).");
        l.run("ticket w, m, t", "'ticket w*100+m*10+t'@0 rules(0,1,2,3)=123");
        l.run("pardon w, m, t", "'pardon w*100+m*10+t'@0 rules(1,1,2,3)=123");
        l.run("irons o, m", "'irons o*10+m'@0 rules(2,1,2,3)=12 rules(2,1,2,MAX)=12 rules(2,1,2,MIN)=12");
        l.run("fear k, m, p", "'fear k*25+m*5+p'@0 rules(3,1,2,3)=38");
        l.run("stop e, d", "'stop e/d'@0 rules(4,90,2,3)=45 rules(4,90,2,MAX)=45");
        l.run("now", "'irons 1'@0 'irons 2'@1 rules(2,0,0,0)=1 run(1) rules(2,0,0,0)=2");
        l.told("BAD.");
        l.range("key", "", "rules(?,0,0,0)", 0, 4);
    }
}
