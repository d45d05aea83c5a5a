/** The sentences of promises 31 to 55. */
final class PromisesReckoning {
    private static final String ABOARD = TermsShore.ABOARD, LANDED = TermsShore.LANDED, ALL_KINDS = TermsShore.ALL_KINDS;

    private PromisesReckoning() { }

    static void tell(Ledger l) {
        paths(l);
        looks(l);
        assigning(l);
        sentences(l);
        letters(l);
        vote(l);
        plans(l);
        musters(l);
        copies(l);
        rows(l);
        counts(l);
    }

    private static void paths(Ledger l) {
        l.part("Promise 31");
        l.told("PATH between two PLACES becomes v MILES (0: none): what it was.");
        l.run("what it was", "path(0,5,99)=0 path(5,0,1)=99 path(0,5,0)=1 path(5,0,7)=0 path(1,5,0)=0 path(0,4,0)=0");
        l.told("BAD: also if they are one.");
        l.range("one", "", "path(?,3,5)", 0, 5);
        l.range("other", "", "path(3,?,5)", 0, 5);
        l.range("v", "path(2,4,7)", "path(2,4,?)=7", 0, 99);
        l.run("they are one", "path(0,0,1)=BAD path(5,5,1)=BAD path(3,3,0)=BAD path(0,1,1)=0 path(4,5,1)=0");

        l.part("Promise 32");
        l.told("REACH with f (0 .. 99) FOOD.");
        l.run("none, the most", "path(0,1,99) path(1,2,99) path(2,3,99) path(3,4,99) path(4,5,99) reach(0,0)=1 reach(0,99)=63 reach(5,0)=32 "
            + "reach(5,99)=63");
        l.told("BAD.");
        l.range("place", "", "reach(?,0)", 0, 5);
        l.range("f", "", "reach(0,?)=1", 0, 99);
    }

    private static void looks(Ledger l) {
        l.part("Promise 33");
        l.told("One more LOOK: its number.");
        l.run("0, then 1", "look(8,6,0,0)=0 look(0,0,70,255)=1 count(15)=2");
        l.told("BAD;");
        l.range("deed", "", "look(?,0,0,0)=0", 0, 8);
        l.range("trade", "", "look(0,?,0,0)=0", 0, 6);
        l.range("age", "", "look(0,0,?,0)=0", 0, 70);
        l.range("skin", "", "look(0,0,0,?)=0", 0, 255);
        l.told("FULL.");
        l.run("the tenth and the next", "9*look(8,6,0,0) look(8,6,0,0)=9 look(8,6,0,0)=FULL count(15)=10");

        l.part("Promise 34");
        l.told("Of a LOOK: what 0 men who MAY BE (bits), 1 the one who is SURE (NONE), 2 the bit of SKIN that parts most (NONE: fewer than two MAY BE).");
        l.run("none", "look(8,6,0,0) may(0,0)=0 may(0,1)=NONE may(0,2)=NONE");
        l.run("one", "look(8,6,0,0) ship(0,1) man(0,0,0,20,4) may(0,0)=1 may(0,1)=0 may(0,2)=NONE");
        l.run("two", "look(8,6,0,0) ship(0,1) man(0,0,0,20,4) man(0,0,0,20,0) may(0,0)=3 may(0,1)=NONE may(0,2)=2");
        l.told("BAD.");
        l.range("look", "2*look(8,6,0,0)", "may(?,0)=0", 0, 1);
        l.range("what", "look(8,6,0,0) ship(0,1) 2*man(0,0,0,20,0)", "may(0,?)", 0, 2);

        l.part("Promise 35");
        l.told("SAME of two LOOKS.");
        l.run("0, 1, 2", "2*look(8,6,0,0) same(0,1)=0 ship(0,1) man(0,0,0,20,0) same(0,1)=2 man(0,0,0,20,0) same(0,1)=1");
        l.told("BAD: also if they are one.");
        l.range("one", "3*look(8,6,0,0)", "same(?,1)=0", 0, 2);
        l.range("other", "3*look(8,6,0,0)", "same(1,?)=0", 0, 2);
        l.run("they are one", "2*look(8,6,0,0) same(0,0)=BAD same(1,1)=BAD same(1,0)=0");
    }

    private static void assigning(Ledger l) {
        l.part("Promise 36");
        l.told("THE ASSIGNING: to whom a man goes (NONE: to none, also if he is not BOUND).");
        l.run("to none", "ship(0,1) 2*man(0,0,0,20,0) run(2) master(0,63,1,1) goes(0)=0 goes(1)=NONE");
        l.run("not BOUND", ALL_KINDS + "goes(0)=0 goes(1)=NONE goes(2)=NONE goes(3)=NONE goes(4)=NONE goes(5)=NONE goes(6)=NONE");
        l.run("nobody is ASSIGNED by it", LANDED + "master(0,63,1,1) goes(0)=0 told(0,5)=1 has(0,4)=0 goes(0)=0");
        l.told("BAD.");
        l.range("man", "ship(0,1) 2*man(0,0,0,20,0) run(2) master(0,63,9,1)", "goes(?)=0", 0, 1);

        l.part("Promise 37");
        l.told("How many THE ASSIGNING has.");
        l.run("none", "most()=0");
        l.run("as many as hands", "ship(0,1) 3*man(0,0,0,20,0) run(2) master(0,63,2,1) most()=2");
        l.run("as many as men", "ship(0,1) 3*man(0,0,0,20,0) run(2) master(0,63,4,1) most()=3 dies(1) most()=2");
    }

    private static void sentences(Ledger l) {
        l.part("Promise 38");
        l.told("One more SENTENCE: its number.");
        l.run("0, then 1", "sentence(0,0,0)=0 sentence(3,7,300)=1 count(16)=2");
        l.told("BAD;");
        l.range("judge", "", "sentence(?,0,0)=0", 0, 3);
        l.range("deed", "", "sentence(0,?,0)=0", 0, 7);
        l.range("lashes", "", "sentence(0,0,?)=0", 0, 300);
        l.told("FULL.");
        l.run("the thirtieth and the next", "29*sentence(0,0,0) sentence(0,0,0)=29 sentence(0,0,0)=FULL count(16)=30");

        l.part("Promise 39");
        l.told("The mean of a JUDGE for a DEED.");
        l.run("cut", "sentence(0,0,3) sentence(0,0,4) mean(0,0)=3 sentence(3,7,300) mean(3,7)=300");
        l.told("BAD;");
        l.range("judge", "4*sentence(#,0,9)", "mean(?,0)=9", 0, 3);
        l.range("deed", "8*sentence(0,#,9)", "mean(0,?)=9", 0, 7);
        l.told("NONE.");
        l.run("none of that DEED, none of that JUDGE", "mean(0,0)=NONE sentence(0,1,5) mean(0,0)=NONE sentence(1,0,5) mean(0,0)=NONE "
            + "sentence(0,0,0) mean(0,0)=0");

        l.part("Promise 40");
        l.told("JUDGES who are HARSH for a DEED (0 .. 7), as bits.");
        l.run("none, the least, the greatest", "harsh(0)=0 sentence(0,0,9) sentence(1,0,4) harsh(0)=1 sentence(3,7,9) sentence(0,7,4) harsh(7)=8");
        l.told("BAD.");
        l.range("deed", "", "harsh(?)=0", 0, 7);
    }

    private static void letters(Ledger l) {
        l.part("Promise 41");
        l.told("One more LETTER, to him (way 0), from him (1), there n WEEKS later: its number.");
        l.run("0, then 1", LANDED + "letter(0,0,1)=0 letter(0,1,99)=1 letterTold(0,1)=0 letterTold(1,1)=1 letterTold(0,2)=3 letterTold(1,2)=101 "
            + "count(17)=2");
        l.told("BAD;");
        l.range("man", ABOARD + "man(0,0,0,20,0)", "letter(?,0,1)=0", 0, 1);
        l.range("way", ABOARD, "letter(0,?,1)=0", 0, 1);
        l.range("n", ABOARD, "letter(0,1,?)=0", 1, 99);
        l.told("NO: he is DEAD (way 1);");
        l.run("from and to a DEAD one", LANDED + "letter(0,1,1)=0 dies(0) letter(0,1,1)=NO letter(0,0,1)=1");
        l.told("FULL.");
        l.run("the twentieth and the next", ABOARD + "19*letter(0,0,1) letter(0,1,1)=19 letter(0,0,1)=FULL letter(0,1,1)=FULL count(17)=20");

        l.part("Promise 42");
        l.told("Of a LETTER: what 0 its man, 1 way, 2 the WEEK in which it is due, 3 whether it came (1, 0), 4 whether it was LATE (1, 0; 0 till it came).");
        l.run("each, ahead and behind", "ship(0,1) 3*man(0,0,0,20,0) letter(2,1,2) dies(2) letterTold(0,0)=2 letterTold(0,1)=1 letterTold(0,2)=2 "
            + "letterTold(0,3)=0 letterTold(0,4)=0 "
            + "run(2) letterTold(0,3)=0 letterTold(0,4)=0 run(1) letterTold(0,3)=1 letterTold(0,4)=1 run(1) letterTold(0,3)=1 letterTold(0,4)=1");
        l.run("not LATE", LANDED + "letter(0,0,1) run(2) letterTold(0,3)=1 letterTold(0,4)=0 dies(0) run(1) letterTold(0,4)=0");
        l.run("0 till it came, also if it was sent behind a death", ABOARD + "dies(0) run(1) letter(0,0,1) letterTold(0,3)=0 letterTold(0,4)=0");
        l.run("as its own man is", "ship(0,1) 2*man(0,0,0,20,0) letter(0,0,1) letter(1,0,1) dies(1) run(2) letterTold(0,4)=0 letterTold(1,4)=1");
        l.told("BAD.");
        l.range("letter", ABOARD + "2*letter(0,0,1)", "letterTold(?,0)=0", 0, 1);
        l.range("what", ABOARD + "letter(0,0,1)", "letterTold(0,?)=0", 0, 4);
    }

    private static void vote(Ledger l) {
        l.part("Promise 43");
        l.told("VOTES (what 0, 0 .. 99), CLAUSES wanted (1), not had (2) of a PARTY become v: what they were.");
        l.run("what they were", "party(0,0,99)=0 party(0,1,255)=0 party(0,2,254)=0 party(0,0,0)=99 party(0,1,0)=255 party(0,2,0)=254 "
            + "party(6,0,1)=0 party(6,0,2)=1");
        l.told("BAD.");
        l.range("party", "", "party(?,1,5)=0", 0, 6);
        l.range("what", "", "party(0,?,5)=0", 0, 2);
        l.range("votes", "", "party(6,0,?)=0", 0, 99);
        l.range("wanted", "", "party(6,1,?)=0", 0, 255);
        l.range("not had", "", "party(6,2,?)=0", 0, 255);

        l.part("Promise 44");
        l.told("CARRIES with n (1 .. 999): the set.");
        l.run("the least n", "party(3,0,1) party(3,1,16) carries(1)=16");
        l.told("BAD;");
        l.range("n", "", "carries(?)=NONE", 1, 999);
        l.told("NONE.");
        l.run("too few VOTES", "party(0,0,9) carries(10)=NONE carries(9)=0");

        l.part("Promise 45");
        l.told("FALLS (what 0), FOOD (1) of a WAY (0 .. 2) of a YEAR becomes v: what it was.");
        l.run("what it was", "way(5,2,0,99)=0 way(5,2,1,98)=0 way(5,2,0,0)=99 way(5,2,1,0)=98 way(0,0,0,1)=0 way(0,0,0,2)=1 way(0,1,0,0)=0 "
            + "way(1,0,0,0)=0");
        l.told("BAD.");
        l.range("year", "", "way(?,0,0,5)=0", 0, 5);
        l.range("way", "", "way(0,?,0,5)=0", 0, 2);
        l.range("what", "", "way(0,0,?,5)=0", 0, 1);
        l.range("v", "way(3,1,0,7)", "way(3,1,0,?)=7", 0, 99);
    }

    private static void plans(Ledger l) {
        l.part("Promise 46");
        l.told("A PLAN of n (1 .. 6) YEARS with f (0 .. 999) FOOD: what 0 FALLS, 1 FOOD, 2 the WAYS as digits of base 3 (YEAR 0 the highest).");
        l.run("FALLS, FOOD, WAYS", "3*way(0,#,0,9) way(0,2,0,1) way(0,2,1,3) 3*way(1,#,0,9) way(1,1,0,2) way(1,1,1,4) plan(2,7,0)=3 plan(2,7,1)=7 "
            + "plan(2,7,2)=7");
        l.run("one YEAR", "2*way(0,#,0,9) plan(1,0,2)=2");
        l.run("six YEARS", "2*way(0,#,0,9) plan(6,999,2)=486 2*way(5,#,0,9) plan(6,999,2)=488 plan(5,999,2)=162");
        l.told("BAD;");
        l.range("n", "", "plan(?,0,0)=0", 1, 6);
        l.range("f", "", "plan(1,?,0)=0", 0, 999);
        l.range("what", "", "plan(1,0,?)=0", 0, 2);
        l.told("NONE.");
        l.run("for each what", "3*way(0,#,1,1) 3*plan(1,0,#)=NONE plan(1,1,0)=0 plan(1,1,1)=1 plan(1,1,2)=0");
    }

    private static void musters(Ledger l) {
        l.part("Promise 47");
        l.told("A MUSTER becomes a row of n places of a sort, all 0 (sort -1: MISSING, n any): n (0).");
        l.run("none, the most", "muster(0,0,0)=0 muster(3,1,24)=24 24*read(3,#)=0 read(3,24)=INDEX read(0,0)=INDEX");
        l.run("all 0 anew", "muster(0,0,3) 3*put(0,#,9) muster(0,0,3)=3 3*read(0,#)=0 3*put(0,#,9) muster(0,1,2)=2 muster(0,0,3)=3 3*read(0,#)=0");
        l.run("MISSING, n any", "muster(0,0,1) muster(0,-1,0)=0 put(0,0,1)=NOTHING muster(0,-1,24)=0 muster(0,-1,25)=0 muster(0,-1,-1)=0 "
            + "muster(0,-1,MAX)=0 muster(0,-1,MIN)=0 read(0,0)=NOTHING");
        l.told("BAD: muster, sort, n above 24;");
        l.range("muster", "", "muster(?,1,3)=3", 0, 3);
        l.range("sort", "", "muster(0,?,0)=0", -1, 1);
        l.run("n", "muster(0,0,24)=24 muster(0,0,25)=BAD muster(0,1,25)=BAD muster(0,1,MAX)=BAD read(0,23)=0");
        l.told("SIZE.");
        l.run("n below 0", "muster(0,0,-1)=SIZE muster(0,1,-1)=SIZE muster(0,1,MIN)=SIZE read(0,0)=NOTHING muster(0,0,0)=0 muster(0,0,-1)=SIZE "
            + "read(0,0)=INDEX");

        l.part("Promise 48");
        l.told("A place of a MUSTER becomes v (its lowest bits): 1.");
        l.run("the lowest eight", "muster(0,0,1) put(0,0,511)=1 read(0,0)=-1 put(0,0,-129)=1 read(0,0)=127 put(0,0,383)=1 read(0,0)=127 "
            + "put(0,0,MAX)=1 read(0,0)=-1 put(0,0,MIN)=1 read(0,0)=0");
        l.run("the lowest sixteen", "muster(0,1,1) put(0,0,131071)=1 read(0,0)=-1 put(0,0,-32769)=1 read(0,0)=32767 put(0,0,98303)=1 "
            + "read(0,0)=32767 put(0,0,MAX)=1 read(0,0)=-1 put(0,0,MIN)=1 read(0,0)=0");
        l.run("that place alone", "muster(0,0,3) put(0,1,5) read(0,0)=0 read(0,1)=5 read(0,2)=0");
        l.told("BAD;");
        l.range("muster", "4*muster(#,0,1)", "put(?,0,5)=1", 0, 3);
        l.told("NOTHING;");
        l.run("MISSING", "put(2,0,5)=NOTHING muster(2,0,1) put(2,0,5)=1 muster(2,-1,0) put(2,0,5)=NOTHING");
        l.told("INDEX.");
        l.range("place", "muster(0,0,5)", "put(0,?,5)=1", 0, 4, "INDEX");
        l.range("place of 24", "muster(0,1,24)", "put(0,?,5)=1", 0, 23, "INDEX");

        l.part("Promise 49");
        l.told("READ.");
        l.run("the number", "muster(0,0,2) put(0,1,-127) read(0,1)=-127 read(0,0)=0");
        l.told("BAD: muster;");
        l.range("muster", "4*muster(#,0,1)", "read(?,0)=0", 0, 3);
        l.told("NOTHING (of this one);");
        l.run("of this one", "muster(0,0,1) read(1,0)=NOTHING read(0,0)=0 muster(1,0,1) put(1,0,-128) read(1,0)=0 muster(0,-1,0) read(1,0)=KIND");
        l.told("INDEX (of this one);");
        l.range("place", "muster(0,0,5)", "read(0,?)=0", 0, 4, "INDEX");
        l.run("of this one", "muster(0,0,2) muster(1,0,1) read(1,1)=INDEX read(0,1)=0 muster(0,0,0) put(1,0,-128) read(1,0)=KIND");
        l.told("KIND: NOT MUSTERED, and there is no such one.");
        l.run("none", "muster(0,0,1) put(0,0,-128) read(0,0)=KIND muster(1,1,1) put(1,0,-32768) read(1,0)=KIND put(0,0,1) read(1,0)=1");
    }

    private static void copies(Ledger l) {
        l.part("Promise 50");
        l.told("So many places of a MUSTER come to another one (or the same), as they were: many.");
        l.run("none", "muster(0,0,2) muster(1,0,2) put(0,0,5) copy(0,0,1,0,0)=0 read(1,0)=0 copy(0,2,1,2,0)=0");
        l.run("all 24", "muster(0,1,24) muster(3,1,24) 24*put(0,#,#+900) copy(0,0,3,0,24)=24 24*read(3,#)=#+900");
        l.run("only so many", "muster(0,0,4) muster(1,0,4) 4*put(0,#,#+1) copy(0,1,1,2,1)=1 read(1,1)=0 read(1,2)=2 read(1,3)=0");
        l.run("the same, upwards", "muster(0,0,5) 5*put(0,#,#+1) copy(0,0,0,1,4)=4 read(0,0)=1 4*read(0,#+1)=#+1");
        l.run("the same, downwards", "muster(0,0,5) 5*put(0,#,#+1) copy(0,1,0,0,4)=4 4*read(0,#)=#+2 read(0,4)=5");
        l.run("as they were: NOT MUSTERED", "muster(0,0,1) muster(1,0,1) muster(2,0,1) put(0,0,7) put(2,0,-128) copy(2,0,1,0,1)=1 read(1,0)=7 "
            + "put(0,0,8) read(1,0)=8");
        l.told("BAD;");
        l.range("from", "4*muster(#,0,1)", "copy(?,0,0,0,1)=1", 0, 3);
        l.range("to", "4*muster(#,0,1)", "copy(0,0,?,0,1)=1", 0, 3);
        l.told("NOTHING;");
        l.run("from, to, both", "muster(0,0,1) copy(0,0,1,0,1)=NOTHING copy(1,0,0,0,1)=NOTHING copy(1,0,2,0,1)=NOTHING muster(1,0,1) "
            + "copy(0,0,1,0,1)=1");
        l.told("KIND: they are not of one sort;");
        l.run("both ways, also of none", "muster(0,0,1) muster(1,1,1) copy(0,0,1,0,1)=KIND copy(1,0,0,0,1)=KIND copy(1,0,0,0,0)=KIND "
            + "muster(1,0,1) copy(1,0,0,0,1)=1");
        l.told("INDEX.");
        l.range("place", "muster(0,0,3) muster(1,0,5)", "copy(0,?,1,0,2)=2", 0, 1, "INDEX");
        l.range("at", "muster(0,0,5) muster(1,0,3)", "copy(0,0,1,?,2)=2", 0, 1, "INDEX");
        l.range("many, by the one from which", "muster(0,0,3) muster(1,0,5)", "copy(0,0,1,0,?)", 0, 3, "INDEX");
        l.range("many, by the one to which", "muster(0,0,5) muster(1,0,3)", "copy(0,0,1,0,?)", 0, 3, "INDEX");
        l.range("place of none", "muster(0,0,3)", "copy(0,?,0,0,0)=0", 0, 3, "INDEX");
        l.range("at of none", "muster(0,0,3)", "copy(0,0,0,?,0)=0", 0, 3, "INDEX");
        l.run("of rows without places", "2*muster(#,0,0) copy(0,0,1,0,0)=0 copy(0,0,1,0,1)=INDEX copy(0,1,1,0,0)=INDEX");
        l.told("(From a MUSTER, its place, to a MUSTER, its place.)");
        l.run("in that order", "muster(0,0,2) muster(1,0,2) put(0,1,5) copy(0,1,1,0,1)=1 read(1,0)=5 read(1,1)=0 read(0,0)=0");
    }

    private static void rows(Ledger l) {
        l.part("Promise 51");
        l.told("One more number waits: how many.");
        l.run("any number", "tell(0)=1 tell(MAX)=2 tell(MIN)=3 count(19)=3");
        l.told("FULL: 60 wait.");
        l.run("the sixtieth and the next", "59*tell(0)=#+1 tell(0)=60 tell(0)=FULL count(19)=60");

        l.part("Promise 52");
        l.told("The numbers that wait (none do then, whatever is answered) are THE WEEKS TOLD of n WEEKS (1 .. 30; also beyond WEEK 1999), two by two: 0;");
        l.run("one WEEK", "keep() 2*tell(0) check(1)=0 count(19)=0");
        l.run("thirty WEEKS", "keep() 60*tell(0) check(30)=0 count(19)=0");
        l.run("two by two: MARKS, then BANKS", LANDED + "mark(0,0) 'ticket 1'@0 ticket(0) keep() tell(1) tell(5) tell(1) tell(10) check(2)=0 "
            + "tell(5) tell(1) check(1)=1");
        l.run("beyond WEEK 1999", LANDED + "'ticket 1'@0 'fear 100'@0 'irons 0'@0 ticket(0) 33*run(60) run(17)=1999 count(13)=40 told(0,5)=6 keep() "
            + "tell(40) tell(1815) tell(40) tell(1815) check(2)=0");
        l.run("landing beyond WEEK 1999", TermsShore.LAST_WEEK.replace("run(19)=1999", "run(18)=1998") + "ship(0,1999) man(0,0,0,20,0) "
            + "'fear 100'@0 'irons 0'@0 run(1)=1999 keep()=1999 "
            + "tell(1) tell(0) tell(2) tell(0) tell(3) tell(0) check(3)=0 count(21)=1999 run(1)=FULL");
        l.run("none do then: 0, else, BAD, NO", "tell(5) check(1)=NO count(19)=0 tell(5) check(31)=BAD count(19)=0 keep() tell(5) check(1)=1 "
            + "count(19)=0 2*tell(0) check(1)=0 count(19)=0");
        l.told("else 1 and how many stand right ahead of the first that is not (or is missing, or one too many).");
        l.run("the first is not", "keep() tell(1) tell(0) check(1)=1");
        l.run("the second is not", "keep() tell(0) tell(1) check(1)=2");
        l.run("the last of sixty is not", "keep() 59*tell(0) tell(1) check(30)=60");
        l.run("the first of two that are not", "keep() tell(0) tell(1) tell(1) tell(0) check(2)=2");
        l.run("none wait", "keep() check(1)=1 check(30)=1");
        l.run("one is missing", "keep() tell(0) check(1)=2 59*tell(0) check(30)=60");
        l.run("a WEEK is missing", "keep() 2*tell(0) check(2)=3");
        l.run("one too many", "keep() 3*tell(0) check(1)=3 60*tell(0) check(29)=59");
        l.run("wrong ahead of one too many", "keep() tell(0) tell(1) tell(0) check(1)=2");
        l.told("BAD;");
        l.run("n", "keep() check(0)=BAD check(1)=1 check(30)=1 check(31)=BAD check(-1)=BAD check(MIN)=BAD check(MAX)=BAD");
        l.told("NO: there is no IMAGE.");
        l.run("none, then one", "2*tell(0) check(1)=NO keep() 2*tell(0) check(1)=0");

        l.part("Promise 53");
        l.told("AN IMAGE is kept: the WEEK.");
        l.run("the first and the last WEEK", "keep()=0 " + TermsShore.LAST_WEEK + "keep()=1999 again()=1999 run(1)=FULL");
        l.run("the newest one", "keep()=0 run(3) keep()=3 run(2) again()=3");

        l.part("Promise 54");
        l.told("All is as THE IMAGE: the WEEK.");
        l.run("the WEEK", "run(4) keep()=4 run(7) again()=4 count(21)=4");
        l.run("it goes on from there as it did", LANDED + "'fear 50'@0 'irons 0'@0 seed(0) keep() run(3) count(13)=3 count(22)=31223 "
            + "run(3) again() count(22)=0 run(3) count(13)=3 count(22)=31223 markTold(1,2)=3");
        l.told("NO: there is none.");
        l.run("none, then one", "again()=NO keep() again()=0");
    }

    private static void counts(Ledger l) {
        l.part("Promise 55");
        l.told("How many: 0 SHIPS, 1 MEN, 2 DEAD, 3 aboard, 4 .. 11 of KINDS 0 .. 7 (not under it; DEAD ones not), 12 MASTERS, 13 MARKS (VOID ones, too), "
            + "14 TEXTS, 15 LOOKS, 16 SENTENCES, 17 LETTERS, 18 in the CHEST, 19 numbers that wait, 20 bytes of THE TAPE, 21 the WEEK, 22 SEED.");
        l.run("none of any", "23*count(#)=0");
        l.run("SHIPS, MEN, DEAD, aboard", "ship(0,1) ship(0,9) 2*man(0,0,0,20,0) 3*man(1,0,0,20,0) dies(0) dies(4) run(2) count(0)=2 count(1)=5 "
            + "count(2)=2 count(3)=2");
        l.run("of each KIND", ALL_KINDS + "count(4)=0 count(5)=2 count(6)=1 count(7)=1 count(8)=1 count(9)=1 count(10)=1 count(11)=1");
        l.run("DEAD ones not", ALL_KINDS + "8*dies(#) 8*count(#+4)=0 count(2)=8 count(3)=0");
        l.run("MASTERS, MARKS, TEXTS", LANDED + "3*master(0,0,0,0) 2*mark(0,0) 2*voids(#,1) 4*'stop 1'@9 count(12)=3 count(13)=2 count(14)=4");
        l.run("LOOKS, SENTENCES, LETTERS", LANDED + "2*look(8,6,0,0) 3*sentence(0,0,0) 4*letter(0,0,1) run(3) count(15)=2 count(16)=3 count(17)=4");
        l.run("the CHEST, the WEEK, SEED", LANDED + "'stop 3'@0 'ticket 1'@0 ticket(0) run(2) seed(65535) count(18)=6 count(21)=4 count(22)=65535");
        l.run("what waits, THE TAPE", "5*tell(0) feed(0,0,0) trim(7) count(19)=5 count(20)=7");
        l.told("BAD.");
        l.range("what", "", "count(?)=0", 0, 22);
    }
}
