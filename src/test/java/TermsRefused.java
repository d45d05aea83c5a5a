/** The sentence of the Terms on refused calls: which answer stands first, and that nothing is changed (see Twins). */
final class TermsRefused {
    private static final String ABOARD = TermsShore.ABOARD, LANDED = TermsShore.LANDED, ALL_KINDS = TermsShore.ALL_KINDS;
    private static final String LAST_WEEK = TermsShore.LAST_WEEK;

    /** Men of all kinds (0 to 7; 8 is dead, 9 died aboard), and of everything else at least one; but no image. */
    private static final String ALL = "ship(2,1) ship(0,90) 7*man(0,0,0,20,0) man(1,3,2,30,9) man(0,1,1,31,5) man(1,2,2,32,6) term(6,1) term(7,77) "
        + "run(2) 2*master(2,63,2,9) 'ticket w'@0 'pardon w'@0 'stop 1+d'@0 'fear 20'@4 'irons 3'@9 assign(1,1) runs(2) caught(2) ticket(3) "
        + "pardon(4,1) runs(5) mark(0,2) mark(1,1) voids(1,1) mark(8,0) dies(8) dies(9) store(2,30) store(4,5) run(1) seed(77) "
        + "path(0,1,9) path(1,2,7) look(8,6,0,0) look(0,6,20,0) look(1,1,31,5) sentence(0,0,9) sentence(1,0,4) letter(0,0,1) letter(5,1,3) "
        + "letter(8,0,2) party(0,0,9) party(0,1,3) party(1,0,5) party(1,2,1) way(0,0,0,9) way(0,1,1,3) way(5,2,0,4) "
        + "muster(0,0,3) 3*put(0,#,#+5) muster(1,1,3) 3*put(1,#,#+500) put(1,1,-32768) muster(2,0,4) 4*put(2,#,#+9) "
        + "tell(3) tell(4) feed(1937010544,540082176,0) trim(6) ";

    private static final String[] ON_ALL = {
        "ship(6,9)=BAD", "ship(0,3)=BAD", "ship(0,2000)=BAD", "man(0,0,0,20,0)=BAD", "man(2,0,0,20,0)=BAD", "man(1,8,0,20,0)=BAD",
        "man(1,0,0,9,0)=BAD", "man(1,0,0,20,256)=BAD", "term(0,5)=NO", "term(8,5)=NO", "term(7,0)=BAD", "term(10,5)=BAD", "told(0,12)=BAD",
        "as(0,2)=KIND", "as(1,3)=KIND", "as(0,8)=BAD", "dies(8)=NO", "dies(9)=NO", "dies(10)=BAD", "master(6,1,1,1)=BAD", "master(0,1,10,1)=BAD",
        "has(2,0)=BAD", "store(2,10000)=BAD", "store(6,1)=BAD", "hungry(6)=BAD", "trim(7)=BAD", "trim(-1)=BAD", "text(2000)=BAD", "text(-1)=BAD",
        "feed(0,0,0) text(0)=-106", "of(5,0)=BAD", "why(5)=BAD", "rules(5,0,0,0)=BAD", "mark(0,4)=BAD", "mark(7,0)=NO", "mark(8,0)=NO",
        "voids(4,1)=BAD", "voids(0,2)=BAD", "voids(1,-1)=BAD", "markTold(4,0)=BAD", "due(7)=NO", "due(8)=NO", "due(10)=BAD", "moves(1)=NO",
        "moves(3)=NO", "moves(4)=BAD", "assign(0,2)=BAD", "assign(1,0)=KIND", "assign(4,0)=KIND", "assign(7,0)=NO", "assign(8,0)=NO",
        "master(3,63,9,9) assign(0,2)=NO", "master(2,0,9,9) assign(0,2)=NO", "master(2,63,0,9) assign(0,2)=NO", "back(0)=KIND", "back(8)=KIND",
        "dies(1) back(1)=NO", "back(10)=BAD", "ticket(2)=KIND", "ticket(3)=KIND", "ticket(7)=NO", "ticket(8)=NO", "ticket(10)=BAD",
        "trim(0) 'ticket 0'@0 ticket(0)=NO", "pardon(4,0)=KIND", "pardon(5,0)=KIND", "pardon(7,0)=NO", "pardon(8,0)=NO", "pardon(0,2)=BAD",
        "runs(4)=KIND", "runs(5)=KIND", "runs(7)=NO", "runs(8)=NO", "runs(10)=BAD", "caught(0)=KIND", "caught(8)=KIND", "dies(5) caught(5)=NO",
        "caught(10)=BAD", "seed(65536)=BAD", "seed(-1)=BAD", "run(0)=BAD", "run(61)=BAD", "path(1,1,5)=BAD", "path(0,1,100)=BAD", "path(0,6,5)=BAD",
        "reach(0,100)=BAD", "look(9,0,0,0)=BAD", "look(0,0,71,0)=BAD", "may(3,0)=BAD", "same(1,1)=BAD", "same(0,3)=BAD", "goes(10)=BAD",
        "sentence(4,0,0)=BAD", "sentence(0,0,301)=BAD", "mean(0,8)=BAD", "harsh(8)=BAD", "letter(0,2,1)=BAD", "letter(0,0,0)=BAD",
        "letter(10,0,1)=BAD", "letter(8,1,1)=NO", "letterTold(3,0)=BAD", "party(0,0,100)=BAD", "party(0,3,1)=BAD", "party(1,2,256)=BAD",
        "party(7,0,1)=BAD", "carries(0)=BAD", "way(0,0,0,100)=BAD", "way(0,0,2,1)=BAD", "way(0,3,0,1)=BAD", "way(6,0,0,1)=BAD", "plan(7,0,0)=BAD",
        "muster(0,2,3)=BAD", "muster(0,0,25)=BAD", "muster(2,1,-1)=SIZE", "muster(4,0,1)=BAD", "put(0,3,1)=INDEX", "put(1,-1,1)=INDEX",
        "put(3,0,1)=NOTHING", "put(4,0,1)=BAD", "read(0,3)=INDEX", "read(3,0)=NOTHING", "put(0,0,-128) read(0,0)=KIND", "copy(0,1,2,0,3)=INDEX",
        "copy(0,0,2,2,3)=INDEX", "copy(2,0,0,-1,2)=INDEX", "copy(2,0,0,0,-1)=INDEX", "copy(2,0,2,1,4)=INDEX", "copy(0,0,1,0,2)=KIND",
        "copy(0,0,3,0,2)=NOTHING", "copy(3,0,0,0,2)=NOTHING", "copy(0,0,4,0,2)=BAD", "check(31)=BAD", "check(0)=BAD", "check(1)=NO", "again()=NO",
        "keep() run(1) check(31)=BAD", "count(23)=BAD", "count(-1)=BAD"};

    private static final String FULL_OF_ALL = "ship(0,1) 7*ship(5,99) 13*man(0,1,2,30,4) man(1,0,0,20,0) run(2) 6*master(0,63,9,9) 40*mark(0,1) "
        + "13*'fear m'@0 'stop d'@1 10*look(1,2,30,4) 30*sentence(1,2,3) 20*letter(1,0,5) 8*feed(538976288,538976288,538976288) 60*tell(6) ";

    private static final String[] ON_FULL = {"ship(0,9)=FULL", "man(1,0,0,20,0)=FULL", "master(0,0,0,0)=FULL", "feed(0,0,0)=FULL",
        "trim(0) 'irons 1'@0=FULL", "text(0)=-196", "mark(1,0)=FULL", "look(8,6,0,0)=FULL", "sentence(0,0,0)=FULL", "letter(2,1,9)=FULL",
        "tell(0)=FULL"};

    private TermsRefused() { }

    static void tell(Ledger l) {
        l.told("A call that is refused answers one of BAD, NO, FULL, or a FINDING, of several the one that stands first with it, "
            + "and changes nothing (but the tape and the numbers that wait, where told).");
        l.run("ship", "8*ship(0,9) ship(0,9)=FULL ship(6,9)=BAD ship(0,0)=BAD");
        l.run("man", "ship(0,1) 14*man(0,0,0,20,0) man(0,0,0,20,0)=FULL man(1,0,0,20,0)=BAD man(0,8,0,20,0)=BAD");
        l.run("man of a landed ship", "ship(0,1) 14*man(0,0,0,20,0) run(2) man(0,0,0,20,0)=BAD");
        l.run("term", LANDED + "term(0,5)=NO term(0,0)=BAD term(0,1000)=BAD");
        l.run("master", "6*master(0,0,0,0) master(0,0,0,0)=FULL master(0,64,0,0)=BAD");
        l.run("text", "13*'stop 1'@0 'stop'@0=-104 'stop'@2000=BAD 'stop 1'@0=13 'stop 1'@0=FULL 'stop'@0=-104 'stop 1'@2000=BAD");
        l.run("mark", LANDED + "ship(0,9) man(1,0,0,20,0) 40*mark(0,0) mark(0,0)=FULL mark(1,0)=NO mark(1,4)=BAD mark(0,4)=BAD");
        l.run("due", LANDED + "'ticket 0'@0 due(0)=NONE dies(0) due(0)=NO due(1)=BAD");
        l.run("moves", LANDED + "'ticket 0'@0 mark(0,0) moves(0)=NONE voids(0,1) moves(0)=NO moves(1)=BAD");
        l.run("assign", ALL_KINDS + "assign(1,0)=KIND assign(1,2)=BAD assign(7,0)=NO assign(7,2)=BAD dies(1) assign(1,0)=KIND");
        l.run("back", ALL_KINDS + "dies(0) back(0)=KIND dies(1) back(1)=NO");
        l.run("ticket", ALL_KINDS + "dies(3) ticket(3)=KIND dies(0) ticket(0)=NO");
        l.run("pardon", ALL_KINDS + "dies(4) pardon(4,2)=BAD pardon(4,0)=KIND dies(0) pardon(0,0)=NO pardon(0,2)=BAD");
        l.run("runs", ALL_KINDS + "dies(5) runs(5)=KIND dies(0) runs(0)=NO");
        l.run("caught", ALL_KINDS + "dies(0) caught(0)=KIND dies(5) caught(5)=NO");
        l.run("run", LAST_WEEK + "run(1)=FULL run(0)=BAD run(61)=BAD");
        l.run("look", "10*look(8,6,0,0) look(8,6,0,0)=FULL look(9,6,0,0)=BAD");
        l.run("sentence", "30*sentence(0,0,0) sentence(0,0,0)=FULL sentence(4,0,0)=BAD");
        l.run("letter", ABOARD + "man(0,0,0,20,0) dies(1) 20*letter(0,0,1) letter(0,0,1)=FULL letter(1,1,1)=NO letter(1,1,0)=BAD letter(0,0,0)=BAD");
        l.run("muster", "muster(0,0,-1)=SIZE muster(4,0,-1)=BAD muster(0,2,-1)=BAD muster(0,0,25)=BAD");
        l.run("put", "put(0,-1,0)=NOTHING put(4,-1,0)=BAD muster(0,0,1) put(0,-1,0)=INDEX");
        l.run("read", "read(0,1)=NOTHING read(4,0)=BAD muster(0,0,1) put(0,0,-128) read(0,1)=INDEX read(0,0)=KIND");
        l.run("copy", "muster(0,0,1) muster(1,1,1) muster(2,0,1) copy(0,5,4,5,5)=BAD copy(0,5,3,5,5)=NOTHING "
            + "copy(3,5,0,5,5)=NOTHING copy(4,5,3,5,5)=BAD copy(0,5,1,5,5)=KIND copy(0,5,2,5,5)=INDEX");
        l.run("check", "check(1)=NO check(0)=BAD check(31)=BAD keep() check(0)=BAD check(1)=1");
        l.run("the tape, where told", "feed(1,2,3) text(2000)=BAD count(20)=0 feed(1,2,3) trim(13)=BAD count(20)=12 7*feed(1,2,3) "
            + "feed(1,2,3)=FULL count(20)=96");
        l.run("the numbers that wait, where told", "60*tell(7) tell(7)=FULL count(19)=60 check(1)=NO count(19)=0");
        for (String call : ON_ALL) l.run("with something of everything there", ALL + call);
        for (String call : ON_FULL) l.run("with all that there may be", FULL_OF_ALL + call);
    }
}
