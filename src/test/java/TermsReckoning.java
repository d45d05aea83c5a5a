/** The sentences of parts 4 and 5 of the Terms: paths to plans, musters, images. */
final class TermsReckoning {
    private static final String LANDED = TermsShore.LANDED;

    private TermsReckoning() { }

    static void tell(Ledger l) {
        l.part("Terms 4");
        paths(l);
        looks(l);
        assigning(l);
        sentences(l);
        letters(l);
        vote(l);
        plans(l);
        l.part("Terms 5");
        musters(l);
        images(l);
    }

    private static void paths(Ledger l) {
        l.told("PATHS between two PLACES: 1 .. 99 MILES (0: none, at first), both ways.");
        l.range("miles", "path(0,1,7)", "path(0,1,?)=7", 0, 99);
        l.run("none at first", "reach(0,99)=1 reach(1,99)=2 reach(5,99)=32 path(0,5,1)=0 path(4,5,1)=0");
        l.run("0: none", "path(0,1,1) reach(0,1)=3 path(0,1,0)=1 reach(0,99)=1 reach(1,99)=2");
        l.run("both ways", "path(0,5,9)=0 path(5,0,8)=9 path(0,5,8)=8 reach(0,2)=33 reach(5,2)=33");
        l.told("REACH with f FOOD from a PLACE: all PLACES to which he comes by PATHS of f times 7 MILES together at most (his own, too), as bits.");
        l.run("no food", "path(0,1,1) reach(0,0)=1 reach(1,0)=2");
        l.run("just as far", "path(0,1,7) reach(0,1)=3");
        l.run("a mile too far", "path(0,1,8) reach(0,1)=1 reach(0,2)=3");
        l.run("the longest PATH", "path(0,1,99) reach(0,14)=1 reach(0,15)=3");
        l.run("two together", "path(0,1,7) path(1,2,7) reach(0,1)=3 reach(0,2)=7 path(1,2,8) reach(0,2)=3");
        l.run("all five together", "path(0,1,99) path(1,2,99) path(2,3,99) path(3,4,99) path(4,5,99) reach(0,70)=31 reach(0,71)=63 reach(5,71)=63 "
            + "reach(5,70)=62");
        l.run("a way round is shorter", "path(0,1,50) path(0,5,7) path(5,4,7) path(4,1,7) reach(0,3)=51 reach(1,3)=51");
        l.run("by falling numbers", "path(0,5,7) path(5,4,7) path(4,3,7) path(3,2,7) path(2,1,7) reach(0,5)=63 reach(0,4)=61 reach(1,5)=63");
        l.run("the most food", "path(0,1,99) reach(0,99)=3");
    }

    private static void looks(Ledger l) {
        l.told("LOOKS, 10 at most, numbered from 0: what was seen of somebody: DEED (or 8: not known), TRADE (or 6), "
            + "AGE (0 .. 70; 0: not known; else within 2 YEARS of it), SKIN that was seen (bits, each of them he must have).");
        l.run("ten", "10*look(8,6,0,0)=# look(8,6,0,0)=FULL count(15)=10 may(9,0)=0 may(10,0)=BAD");
        l.range("deed", "", "look(?,0,0,0)=0", 0, 8);
        l.range("trade", "", "look(0,?,0,0)=0", 0, 6);
        l.range("age", "", "look(0,0,?,0)=0", 0, 70);
        l.range("skin", "", "look(0,0,0,?)=0", 0, 255);
        l.run("DEED", "ship(0,1) man(0,0,0,20,0) man(0,7,0,20,0) look(0,6,0,0) look(7,6,0,0) look(8,6,0,0) look(6,6,0,0) may(0,0)=1 may(1,0)=2 "
            + "may(2,0)=3 may(3,0)=0");
        l.run("TRADE", "ship(0,1) man(0,0,0,20,0) man(0,0,5,20,0) look(8,0,0,0) look(8,5,0,0) look(8,6,0,0) look(8,4,0,0) may(0,0)=1 may(1,0)=2 "
            + "may(2,0)=3 may(3,0)=0");
        l.run("AGE within 2", "ship(0,1) 7*man(0,0,0,#+27,0) look(8,6,30,0) may(0,0)=62");
        l.run("AGE not known", "ship(0,1) man(0,0,0,10,0) man(0,0,0,70,0) look(8,6,0,0) may(0,0)=3");
        l.run("the least AGE", "ship(0,1) man(0,0,0,10,0) look(8,6,1,0) look(8,6,7,0) look(8,6,8,0) look(8,6,12,0) look(8,6,13,0) may(0,0)=0 "
            + "may(1,0)=0 may(2,0)=1 may(3,0)=1 may(4,0)=0");
        l.run("the greatest AGE", "ship(0,1) man(0,0,0,70,0) man(0,0,0,68,0) man(0,0,0,67,0) look(8,6,70,0) may(0,0)=3");
        l.run("SKIN", "ship(0,1) man(0,0,0,20,0) man(0,0,0,20,5) man(0,0,0,20,255) man(0,0,0,20,250) look(8,6,0,0) look(8,6,0,1) look(8,6,0,5) "
            + "look(8,6,0,255) look(8,6,0,128) "
            + "may(0,0)=15 may(1,0)=6 may(2,0)=6 may(3,0)=4 may(4,0)=12");
        l.told("MAY BE: men (DEAD ones, too) whom nothing of it bars.");
        l.run("nobody", "look(8,6,0,0) may(0,0)=0");
        l.run("all fourteen", "ship(0,1) 14*man(0,0,0,20,0) look(8,6,0,0) may(0,0)=16383");
        l.run("the DEAD", LANDED + "look(8,6,0,0) dies(0) may(0,0)=1");
        l.run("one thing bars", "ship(0,1) man(0,1,2,30,4) look(1,2,30,4) look(0,2,30,4) look(1,1,30,4) look(1,2,33,4) look(1,2,30,6) may(0,0)=1 "
            + "may(1,0)=0 may(2,0)=0 may(3,0)=0 may(4,0)=0");
        l.run("men told later, too", "look(8,6,0,0) ship(0,1) man(0,0,0,20,0) may(0,0)=1");
        l.told("SURE: there is just one.");
        l.run("none, one, two", "ship(0,1) look(8,6,0,0) may(0,1)=NONE man(0,0,0,20,0) may(0,1)=0 man(0,0,0,20,0) may(0,1)=NONE");
        l.run("the greatest man", "ship(0,1) 13*man(0,0,0,20,0) man(0,1,0,20,0) look(1,6,0,0) may(0,1)=13");
        l.told("SAME of two LOOKS: 2 both are SURE, of one man; 1 some man MAY BE both; 0 none.");
        l.run("both SURE, of one man", "ship(0,1) man(0,1,2,20,0) man(0,2,1,20,0) look(1,6,0,0) look(8,2,0,0) same(0,1)=2");
        l.run("both SURE, of two men", "ship(0,1) man(0,1,2,20,0) man(0,2,1,20,0) look(1,6,0,0) look(8,1,0,0) same(0,1)=0");
        l.run("one SURE", "ship(0,1) man(0,1,2,20,0) man(0,2,1,20,0) look(1,6,0,0) look(8,6,0,0) same(0,1)=1 same(1,0)=1");
        l.run("one SURE, of none of the others", "ship(0,1) man(0,1,2,20,0) 2*man(0,2,1,20,0) look(1,6,0,0) look(2,6,0,0) same(0,1)=0");
        l.run("none SURE, the same two", "ship(0,1) 2*man(0,1,2,20,0) look(1,6,0,0) look(8,2,0,0) same(0,1)=1");
        l.run("none MAY BE either", "look(8,6,0,0) look(8,6,0,0) same(0,1)=0");
        l.told("THE LOOK that parts most: of the eight bits of SKIN that one, by which of the men that MAY BE (of a LOOK) "
            + "the greater part (with it, or without) is least; of several the least bit.");
        l.run("the least bit", "ship(0,1) man(0,0,0,20,0) man(0,0,0,20,1) look(8,6,0,0) may(0,2)=0");
        l.run("the greatest bit", "ship(0,1) man(0,0,0,20,0) man(0,0,0,20,128) look(8,6,0,0) may(0,2)=7");
        l.run("of several the least", "ship(0,1) man(0,0,0,20,0) man(0,0,0,20,136) look(8,6,0,0) may(0,2)=3");
        l.run("none parts", "ship(0,1) 2*man(0,0,0,20,255) look(8,6,0,0) may(0,2)=0");
        l.run("with it is the greater part", "ship(0,1) man(0,0,0,20,6) man(0,0,0,20,6) man(0,0,0,20,2) man(0,0,0,20,2) man(0,0,0,20,2) "
            + "look(8,6,0,0) may(0,2)=2");
        l.run("3 : 1 is as 1 : 3", "ship(0,1) man(0,0,0,20,6) man(0,0,0,20,4) man(0,0,0,20,4) man(0,0,0,20,0) look(8,6,0,0) may(0,2)=1");
        l.run("2 : 2 is more than 3 : 1", "ship(0,1) man(0,0,0,20,3) man(0,0,0,20,2) 2*man(0,0,0,20,0) look(8,6,0,0) may(0,2)=1");
        l.run("13 : 1", "ship(0,1) 13*man(0,0,0,20,0) man(0,0,0,20,8) look(8,6,0,0) may(0,2)=3");
        l.run("1 : 13", "ship(0,1) 13*man(0,0,0,20,15) man(0,0,0,20,7) look(8,6,0,0) may(0,2)=3");
        l.run("7 : 7", "ship(0,1) 14*man(0,0,0,20,#) look(8,6,0,0) may(0,2)=0");
        l.run("only of men that MAY BE", "ship(0,1) 2*man(0,1,0,20,1) 2*man(0,2,0,20,0) man(0,1,0,20,9) look(1,6,0,0) look(8,6,0,0) may(0,2)=3 "
            + "may(1,2)=0");
    }

    private static void assigning(Ledger l) {
        l.told("THE ASSIGNING: of men who are BOUND at PLACES, to MASTERS there who want their TRADES, with hands free: the most men; "
            + "of several ways that in which the first man (by numbers) for whom they differ goes to the lesser MASTER (none behind all).");
        l.run("nobody, no MASTER", "most()=0 goes(0)=BAD ship(0,1) man(0,0,0,20,0) run(2) most()=0 goes(0)=NONE");
        l.run("BOUND itself", TermsShore.ALL_KINDS + "most()=1 goes(0)=0 goes(1)=NONE goes(2)=NONE goes(3)=NONE goes(4)=NONE goes(5)=NONE "
            + "goes(6)=NONE goes(7)=NONE");
        l.run("at PLACES", "ship(0,5) man(0,0,0,20,0) master(0,63,9,1) most()=0 goes(0)=NONE");
        l.run("not the DEAD", LANDED + "master(0,63,9,1) most()=1 dies(0) most()=0 goes(0)=NONE");
        l.run("MASTERS there", LANDED + "master(1,63,9,1) most()=0 goes(0)=NONE master(0,63,9,1) most()=1 goes(0)=1");
        l.run("their TRADES", LANDED + "master(0,62,9,1) most()=0 goes(0)=NONE master(0,1,9,1) goes(0)=1");
        l.run("no hand", LANDED + "master(0,63,0,1) most()=0 goes(0)=NONE");
        l.run("no hand free", "ship(0,1) 2*man(0,0,0,20,0) run(2) master(0,63,1,1) most()=1 goes(0)=0 goes(1)=NONE assign(1,0) most()=0 "
            + "goes(0)=NONE");
        l.run("one hand of two", "ship(0,1) 3*man(0,0,0,20,0) run(2) master(0,63,2,1) assign(0,0) most()=1 goes(1)=0 goes(2)=NONE");
        l.run("the most men, though the first goes to the greater MASTER",
            "ship(0,1) man(0,0,0,20,0) man(0,0,1,20,0) run(2) master(0,3,1,1) master(0,1,1,1) most()=2 goes(0)=1 goes(1)=0");
        l.run("the last is left out",
            "ship(0,1) man(0,0,0,20,0) man(0,0,1,20,0) man(0,0,2,20,0) run(2) master(0,7,1,1) master(0,3,1,1) most()=2 goes(0)=0 goes(1)=1 "
            + "goes(2)=NONE");
        l.run("a chain moves on", "ship(0,1) man(0,0,0,20,0) man(0,0,1,20,0) man(0,0,2,20,0) run(2) master(0,3,1,1) master(0,5,1,1) master(0,2,1,1) "
            + "most()=3 goes(0)=0 goes(1)=2 goes(2)=1");
        l.run("the lesser MASTER", LANDED + "6*master(0,63,9,1) goes(0)=0");
        l.run("the greatest MASTER", LANDED + "5*master(0,62,9,1) master(0,1,1,1) goes(0)=5");
        l.run("none behind all", "ship(0,1) 3*man(0,0,0,20,0) run(2) 2*master(0,63,1,1) goes(0)=0 goes(1)=1 goes(2)=NONE most()=2");
        l.run("all fourteen", "ship(0,1) 14*man(0,0,0,20,0) run(2) 2*master(0,63,9,1) most()=14 goes(8)=0 goes(9)=1 goes(13)=1");
        l.run("all hands", "ship(0,1) 14*man(0,0,0,20,0) run(2) 6*master(0,63,2,1) most()=12 goes(0)=0 goes(1)=0 goes(2)=1 goes(10)=5 goes(11)=5 "
            + "goes(12)=NONE goes(13)=NONE");
    }

    private static void sentences(Ledger l) {
        l.told("SENTENCES, 30 at most, numbered from 0: a JUDGE 0 .. 3, a DEED, LASHES 0 .. 300.");
        l.run("thirty", "30*sentence(0,0,0)=# sentence(0,0,0)=FULL count(16)=30");
        l.range("judge", "", "sentence(?,0,0)=0", 0, 3);
        l.range("deed", "", "sentence(0,?,0)=0", 0, 7);
        l.range("lashes", "", "sentence(0,0,?)=0", 0, 300);
        l.told("For LIKE DEEDS: of a JUDGE the mean (cut) of that DEED;");
        l.run("of one", "sentence(3,7,300) mean(3,7)=300 mean(3,6)=NONE mean(2,7)=NONE");
        l.run("of none and of 0", "mean(0,0)=NONE sentence(0,0,0) mean(0,0)=0");
        l.run("cut", "sentence(0,0,1) sentence(0,0,2) mean(0,0)=1 sentence(0,0,2) mean(0,0)=1 sentence(0,0,3) mean(0,0)=2");
        l.run("of thirty", "29*sentence(0,0,300) sentence(0,0,299) mean(0,0)=299");
        l.run("of that DEED and JUDGE", "sentence(0,0,10) sentence(0,1,20) sentence(1,0,40) mean(0,0)=10 mean(0,1)=20 mean(1,0)=40");
        l.told("HARSH is a JUDGE whose mean for a DEED is more than twice that of all others together (their mean, cut; both there).");
        l.run("just twice", "sentence(0,0,40) sentence(1,0,20) harsh(0)=0");
        l.run("one more", "sentence(0,0,41) sentence(1,0,20) harsh(0)=1");
        l.run("all others together", "sentence(0,0,41) sentence(1,0,10) sentence(2,0,30) harsh(0)=1 sentence(3,0,23) harsh(0)=0");
        l.run("not the mean of their means", "sentence(0,0,39) 3*sentence(1,0,10) sentence(2,0,30) harsh(0)=1");
        l.run("their mean, cut", "sentence(0,0,41) sentence(1,0,20) sentence(2,0,21) harsh(0)=1");
        l.run("his mean, cut", "sentence(0,0,40) sentence(0,0,41) sentence(1,0,20) harsh(0)=0");
        l.run("he has none", "sentence(1,0,20) harsh(0)=0");
        l.run("no others", "sentence(0,0,300) harsh(0)=0 sentence(1,1,0) harsh(0)=0 sentence(1,0,0) harsh(0)=1");
        l.run("nothing is not more than twice nothing", "sentence(0,0,0) sentence(1,0,0) harsh(0)=0");
        l.run("the greatest JUDGE and DEED", "sentence(3,7,300) sentence(0,7,0) harsh(7)=8");
        l.run("two at once", "sentence(0,0,101) sentence(1,0,101) 28*sentence(2,0,1) harsh(0)=3");
    }

    private static void letters(Ledger l) {
        l.told("LETTERS, 20 at most, numbered from 0: to or from a man, sent in a WEEK, come so many WEEKS (1 .. 99) later; LATE: the man is DEAD as it comes.");
        l.run("twenty", LANDED + "20*letter(0,0,1)=# letter(0,0,1)=FULL count(17)=20 letterTold(19,0)=0 letterTold(20,0)=BAD");
        l.run("those that came are LETTERS, too", LANDED + "20*letter(0,0,1) run(5) letter(0,0,1)=FULL");
        l.range("weeks", LANDED, "letter(0,0,?)=0", 1, 99);
        l.run("1 later", LANDED + "letter(0,0,1) letterTold(0,2)=3 run(1) letterTold(0,3)=0 run(1) letterTold(0,3)=1");
        l.run("99 later", LANDED + "letter(0,1,99) letterTold(0,2)=101 run(60) run(39)=101 letterTold(0,3)=0 run(1) letterTold(0,3)=1");
        l.run("beyond the last WEEK", LANDED + "33*run(60) run(17)=1999 letter(0,0,99)=0 letterTold(0,2)=2098 letterTold(0,3)=0");
        l.run("DEAD as it comes", LANDED + "letter(0,0,1) letter(0,1,1) run(1) dies(0) run(1) letterTold(0,4)=1 letterTold(1,4)=1");
        l.run("DEAD behind that", LANDED + "letter(0,0,1) run(2) dies(0) run(1) letterTold(0,4)=0");
        l.run("DEAD ahead of it, not yet come", LANDED + "letter(0,0,2) dies(0) run(2) letterTold(0,4)=0 run(1) letterTold(0,4)=1");
        l.run("DEAD as it was sent", LANDED + "dies(0) letter(0,0,1)=0 run(2) letterTold(0,4)=1");
    }

    private static void vote(Ledger l) {
        l.told("THE VOTE: PARTIES 0 .. 6 with VOTES 0 .. 99 (0 at first), each with a set of CLAUSES 0 .. 7 that it wants given, "
            + "and one it will not have given (bits; 0 at first): it says yes, if all that it wants are given and none that it will not have.");
        l.range("party", "", "party(?,0,5)=0", 0, 6);
        l.range("votes", "", "party(0,0,?)=0", 0, 99);
        l.range("wanted", "", "party(0,1,?)=0", 0, 255);
        l.range("not had", "", "party(0,2,?)=0", 0, 255);
        l.run("0 at first", "7*party(#,0,1)=0 7*party(#,1,1)=0 7*party(#,2,1)=0");
        l.run("wants nothing", "party(0,0,1) carries(1)=0");
        l.run("all that it wants", "party(6,0,1) party(6,1,129) carries(1)=129");
        l.run("all eight CLAUSES", "party(0,0,1) party(0,1,255) carries(1)=255");
        l.run("none that it will not have", "party(0,0,1) party(0,1,1) party(1,0,1) party(1,2,1) carries(1)=0 carries(2)=NONE");
        l.run("wants what it will not have", "party(0,0,99) party(0,1,128) party(0,2,128) carries(1)=NONE");
        l.told("CARRIES with n: the set of CLAUSES given for which yes VOTES are n or more: the fewest; of several the least as bits.");
        l.run("just n", "party(0,0,50) carries(49)=0 carries(50)=0 carries(51)=NONE");
        l.run("VOTES together", "7*party(#,0,99) carries(693)=0 carries(694)=NONE");
        l.run("the fewest", "party(0,0,5) party(0,1,3) party(1,0,5) party(1,1,128) carries(5)=128 carries(10)=131");
        l.run("of several the least", "party(0,0,5) party(0,1,128) party(1,0,5) party(1,1,64) carries(5)=64");
        l.run("of several with two", "party(0,0,5) party(0,1,12) party(1,0,5) party(1,1,34) carries(5)=12");
        l.run("one more would bar", "party(0,0,5) party(0,1,1) party(1,0,4) party(1,2,1) carries(4)=0 carries(5)=1 carries(6)=NONE");
    }

    private static void plans(Ledger l) {
        l.told("WAYS: 3 for each YEAR, YEARS 0 .. 5: each has FALLS 0 .. 99 and FOOD 0 .. 99 (0 at first).");
        l.range("way", "", "way(0,?,0,5)=0", 0, 2);
        l.range("year", "", "way(?,0,0,5)=0", 0, 5);
        l.range("falls", "way(5,2,0,7)", "way(5,2,0,?)=7", 0, 99);
        l.range("food", "way(5,2,1,7)", "way(5,2,1,?)=7", 0, 99);
        l.run("0 at first", "6*way(#,0,0,1)=0 6*way(#,1,0,1)=0 6*way(#,2,0,1)=0 6*way(#,0,1,1)=0 6*way(#,1,1,1)=0 6*way(#,2,1,1)=0");
        l.told("A PLAN of n YEARS with f FOOD: a WAY for each of YEARS 0 .. n - 1, FOOD together f at most: the least FALLS together; "
            + "of several the first (by YEARS, the lesser WAY first).");
        l.run("just the FOOD", "3*way(0,#,1,9) plan(1,8,0)=NONE plan(1,9,0)=0 plan(1,9,1)=9");
        l.run("FOOD together", "3*way(0,#,1,9) 3*way(1,#,1,9) plan(2,17,0)=NONE plan(2,18,1)=18");
        l.run("not of YEAR n", "3*way(1,#,1,99) 3*way(1,#,0,9) plan(1,0,0)=0 plan(2,98,0)=NONE plan(2,99,0)=9");
        l.run("the most of six YEARS", "6*way(#,0,1,99) 6*way(#,1,1,99) 6*way(#,2,1,99) 6*way(#,0,0,99) 6*way(#,1,0,99) 6*way(#,2,0,99) "
            + "plan(6,593,0)=NONE plan(6,594,0)=594 plan(6,594,1)=594");
        l.run("the least FALLS", "way(0,0,0,3) way(0,1,0,1) way(0,2,0,2) plan(1,0,2)=1 plan(1,0,0)=1");
        l.run("the least FALLS that FOOD allows", "way(0,0,0,3) way(0,1,0,1) way(0,1,1,9) way(0,2,0,2) way(0,2,1,4) plan(1,3,2)=0 plan(1,4,2)=2 "
            + "plan(1,8,2)=2 plan(1,9,2)=1");
        l.run("of several the first", "plan(6,0,2)=0 6*way(#,0,0,1) plan(6,0,2)=364 6*way(#,1,0,1) plan(6,0,2)=728");
        l.run("by YEARS: the first YEAR counts most", "2*way(#,0,1,5) 2*way(#,1,1,0) 2*way(#,2,0,9) 2*way(#,0,0,1) 2*way(#,1,0,4) plan(2,5,2)=1 "
            + "plan(2,5,0)=5 plan(2,4,2)=4 plan(2,10,2)=0");
    }

    private static void musters(Ledger l) {
        l.told("MUSTERS 0 .. 3 are rows of bytes (sort 0) or shorts (1), with 0 to 24 places, or MISSING (at first).");
        l.range("muster", "", "muster(?,0,5)=5", 0, 3);
        l.run("MISSING at first", "4*put(#,0,1)=NOTHING 4*read(#,0)=NOTHING");
        l.run("bytes", "muster(0,0,1) put(0,0,127) read(0,0)=127 put(0,0,128) read(0,0)=KIND put(0,0,129) read(0,0)=-127 put(0,0,255) "
            + "read(0,0)=-1 put(0,0,256) read(0,0)=0");
        l.run("shorts", "muster(0,1,1) put(0,0,32767) read(0,0)=32767 put(0,0,32768) read(0,0)=KIND put(0,0,32769) read(0,0)=-32767 "
            + "put(0,0,65535) read(0,0)=-1 put(0,0,65536) read(0,0)=0");
        l.run("0 places", "muster(0,0,0)=0 put(0,0,1)=INDEX read(0,0)=INDEX");
        l.run("24 places", "muster(0,0,24)=24 put(0,23,5)=1 read(0,23)=5 put(0,24,5)=INDEX read(0,24)=INDEX muster(0,0,25)=BAD");
        l.told("A place that is the least number of its width was NOT MUSTERED: it is as in the nearest MUSTER of a lesser number "
            + "that has that place and was MUSTERED there.");
        l.run("the least byte", "muster(0,0,1) put(0,0,5) muster(1,0,1) put(1,0,-128) read(1,0)=5 put(1,0,-127) read(1,0)=-127 put(1,0,127) "
            + "read(1,0)=127");
        l.run("the least short", "muster(0,0,1) put(0,0,5) muster(1,1,1) put(1,0,-32768) read(1,0)=5 put(1,0,-32767) read(1,0)=-32767 "
            + "put(1,0,-128) read(1,0)=-128");
        l.run("the nearest", "4*muster(#,0,1) 4*put(#,0,#) put(3,0,-128) read(3,0)=2 put(2,0,-128) read(3,0)=1 put(1,0,-128) read(3,0)=0 "
            + "put(0,0,-128) read(3,0)=KIND");
        l.run("that has that place", "muster(0,0,2) put(0,1,7) muster(1,0,1) muster(2,0,2) put(2,1,-128) read(2,1)=7 muster(1,0,2) read(2,1)=0");
        l.run("not MISSING", "muster(0,0,1) put(0,0,7) muster(3,0,1) put(3,0,-128) read(3,0)=7 muster(0,-1,0) read(3,0)=KIND");
        l.run("not of a greater number", "muster(0,0,1) put(0,0,-128) muster(1,0,1) put(1,0,7) read(0,0)=KIND");
        l.run("of another sort", "muster(0,1,1) put(0,0,999) muster(1,0,1) put(1,0,-128) read(1,0)=999 put(0,0,-128) read(1,0)=-128");
        l.told("READ: the number.");
        l.run("0", "muster(0,0,1) read(0,0)=0");
        l.run("below 0", "muster(0,1,1) put(0,0,-5) read(0,0)=-5");
        l.told("FINDINGS: NOTHING: a MUSTER is MISSING; INDEX: there is no such place; SIZE: a number of places is below 0; KIND: it is none (of a KIND, a number).");
        l.run("NOTHING", "put(0,0,0)=NOTHING read(0,0)=NOTHING copy(0,0,0,0,0)=NOTHING muster(0,0,1) put(0,0,0)=1 read(0,0)=0 copy(0,0,0,0,0)=0");
        l.run("INDEX", "muster(0,0,1) put(0,-1,0)=INDEX put(0,0,0)=1 put(0,1,0)=INDEX read(0,-1)=INDEX read(0,0)=0 read(0,1)=INDEX");
        l.run("SIZE", "muster(0,0,-1)=SIZE muster(0,1,MIN)=SIZE muster(0,0,0)=0");
        l.run("KIND", LANDED + "as(0,2)=KIND as(0,1)=0 muster(0,0,1) put(0,0,-128) read(0,0)=KIND put(0,0,-127) read(0,0)=-127");
    }

    private static void images(Ledger l) {
        l.told("AN IMAGE keeps all but MUSTERS, numbers that wait, THE TAPE; all can become as it is (again and again).");
        l.run("MUSTERS stay", "muster(0,0,1) keep() put(0,0,5) muster(1,1,1) again() read(0,0)=5 read(1,0)=0 muster(0,-1,0) again() "
            + "read(0,0)=NOTHING");
        l.run("numbers that wait stay", "tell(5) keep() 2*tell(6) again() count(19)=3");
        l.run("THE TAPE stays", "feed(1,2,3) keep() feed(1,2,3) again() count(20)=24 trim(5) again() count(20)=5");
        l.run("ships, men, masters", "keep() ship(0,1) man(0,0,0,20,0) master(0,0,0,0) again() count(0)=0 count(1)=0 count(12)=0 ship(0,2)=0 "
            + "man(0,1,1,30,1)=0 told(0,0)=1");
        l.run("his state, place and bank", LANDED + "master(0,63,1,9) assign(0,0) run(1) keep() run(1) back(0) runs(0) again() told(0,5)=2 "
            + "told(0,4)=0 told(0,6)=0 told(0,7)=2 told(0,9)=9");
        l.run("who lives", LANDED + "keep() dies(0) again() told(0,11)=0 told(0,4)=0 count(2)=0");
        l.run("term", TermsShore.ABOARD + "term(0,7) keep() term(0,9) again() term(0,1)=7");
        l.run("marks", LANDED + "mark(0,0) keep() mark(0,1) voids(0,1) again() count(13)=1 markTold(0,3)=0 mark(0,2)=1 markTold(1,2)=2");
        l.run("stores and hunger", LANDED + "run(1) store(0,5) keep() store(0,9) run(1) hungry(0)=0 again() hungry(0)=1 store(0,0)=5");
        l.run("texts", "'irons 7'@0 keep() 'irons 8'@0 again() count(14)=1 rules(2,0,0,0)=7 'irons 9'@0=1 rules(2,0,0,0)=9 again() rules(2,0,0,0)=7");
        l.run("week, seed and chest", LANDED + "'stop 2'@0 'ticket 1'@0 ticket(0) run(1) seed(77) keep()=3 run(4) count(18)=10 again()=3 "
            + "count(21)=3 count(22)=77 count(18)=2");
        l.run("paths, parties, ways", "path(0,1,7) party(0,0,5) way(0,0,0,5) keep() path(0,1,8) party(0,0,6) way(0,0,0,6) again() path(1,0,0)=7 "
            + "party(0,0,0)=5 way(0,0,0,0)=5");
        l.run("looks, sentences, letters", LANDED + "look(8,6,0,0) sentence(0,0,5) letter(0,0,1) keep() look(0,0,0,0) sentence(0,0,9) "
            + "letter(0,0,2) run(3) again() "
            + "count(15)=1 count(16)=1 count(17)=1 mean(0,0)=5 letterTold(0,3)=0 letter(0,1,9)=1 letterTold(1,2)=11");
        l.run("THE ASSIGNING as it was", LANDED + "master(0,63,9,1) keep() ship(0,3) 5*man(1,0,0,20,0) run(2) most()=6 again() most()=1 goes(0)=0 goes(1)=BAD");
        l.run("what MAY BE as it was", LANDED + "look(8,6,0,0) keep() ship(0,3) 5*man(1,0,0,20,0) may(0,0)=63 again() may(0,0)=1 may(0,1)=0");
        l.run("again and again", "keep()=0 run(5) again()=0 run(7) again()=0 again()=0 run(3) keep()=3 run(1) again()=3");
        l.told("THE WEEKS TOLD: how many MARKS there are (VOID ones not), and all that is in BANKS together, "
            + "behind each of n WEEKS from THE IMAGE on (nobody doing anything).");
        l.run("nobody", "keep() 2*tell(0) check(1)=0");
        l.run("MARKS, VOID ones not", LANDED + "3*mark(0,0) voids(1,1) keep() tell(2) tell(0) check(1)=0 tell(3) tell(0) check(1)=1");
        l.run("MARKS to come", LANDED + "'fear 100'@0 'irons 0'@0 keep() tell(1) tell(0) tell(2) tell(0) check(2)=0");
        l.run("no more MARKS than forty", LANDED + "39*mark(0,0) voids(0,1) 'fear 100'@0 'irons 0'@0 keep() tell(39) tell(0) tell(39) tell(0) "
            + "check(2)=0");
        l.run("BANKS together", "ship(0,1) 2*man(0,0,0,20,0) run(2) master(0,63,2,10) 2*assign(#,0) keep() tell(0) tell(20) tell(0) tell(40) "
            + "check(2)=0");
        l.run("BANKS of the DEAD", LANDED + "master(0,63,1,10) assign(0,0) run(1) dies(0) keep() tell(0) tell(10) check(1)=0");
        l.run("from THE IMAGE on", LANDED + "master(0,63,1,10) assign(0,0) keep() run(5) back(0) mark(0,0) tell(0) tell(10) check(1)=0 "
            + "count(21)=7 told(0,9)=50 told(0,5)=1");
        l.run("nothing is changed", LANDED + "'fear 100'@0 keep() check(30) count(22)=13849 count(13)=0 again()=2 count(13)=0 tell(1) tell(0) "
            + "check(1)=0");
    }
}
