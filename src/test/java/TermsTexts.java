/** The sentences of part 2 of the Terms: texts, their words and faults, what counts, what is due. */
final class TermsTexts {
    private static final String LANDED = TermsShore.LANDED;
    private static final String[] KEYS = {"ticket", "pardon", "irons", "fear", "stop"};
    private static final String[] NAMES = {"wmt", "wmt", "om", "kmp", "ed"};

    private TermsTexts() { }

    static void tell(Ledger l) {
        l.part("Terms 2");
        tape(l);
        grammar(l);
        names(l);
        words(l);
        faults(l);
        numbers(l);
        counting(l);
        due(l);
    }

    private static void tape(Ledger l) {
        l.told("TEXTS, 14 at most, numbered from 0, each in force from a WEEK on, "
            + "from THE TAPE (96 bytes at most; an act that reads it uses it up, whatever it answers): KEY E.");
        l.run("fourteen", "14*'stop 1'@0=# 'stop 1'@0=FULL count(14)=14 of(13,0)=4 of(14,0)=BAD");
        l.run("not ahead of its WEEK", "'stop 1'@5 run(4) why(4)=NONE run(1) why(4)=0 run(60) why(4)=0");
        l.run("from the first WEEK on", "'stop 1'@0 why(4)=0");
        l.run("from the last WEEK on", "'stop 1'@1999=0 33*run(60) run(18)=1998 why(4)=NONE run(1) why(4)=0");
        l.run("96 bytes", "8*feed(0,0,0) count(20)=96 feed(0,0,0)=FULL count(20)=96");
        l.run("a TEXT of 96 bytes", "'stop e" + "+0".repeat(45) + "'@0=0 of(0,2)=46 rules(4,7,0,0)=7");
        l.run("96 bytes, the last one wrong", "'stop e" + "+0".repeat(44) + "+!'@0=-196");
        l.run("used up as it is taken", "'stop 1'@0=0 count(20)=0 text(0)=-100");
        l.run("used up with a FAULT", "'stop'@0=-104 count(20)=0");
        l.run("used up with BAD", "'stop 1'@2000=BAD count(20)=0 'stop 1'@-1=BAD count(20)=0");
        l.run("used up with FULL", "14*'stop 1'@0 'stop 1'@0=FULL count(20)=0");
        l.told("KEY: ticket | pardon | irons | fear | stop.");
        for (int key = 0; key < KEYS.length; key++) {
            String word = KEYS[key];
            l.run(word, "'" + word + " 1'@0=0 of(0,0)=" + key);
            l.run(word + ", a letter more", "'" + word + "s 1'@0=-100 'a" + word + " 1'@0=-100");
            l.run(word + ", a letter less", "'" + word.substring(1) + " 1'@0=-100 '" + word.substring(0, word.length() - 1) + " 1'@0=-100");
            l.run(word + ", each letter another one", otherLetters(word));
            l.run(word + ", great", "'" + word.toUpperCase() + " 1'@0=-100");
            l.run(word + ", alone", "'" + word + "'@0=" + (-100 - word.length()));
        }
        l.run("no KEY", "''@0=-100 '1'@0=-100 'w'@0=-100 '(stop 1)'@0=-100");
        l.run("two", "'stop stop'@0=-105");
    }

    private static String otherLetters(String word) {
        StringBuilder all = new StringBuilder();
        for (int i = 0; i < word.length(); i++) {
            all.append("'").append(word, 0, i).append('z').append(word.substring(i + 1)).append(" 1'@0=-100 ");
        }
        return all.toString();
    }

    private static String worth(String e, int due) {
        return "'ticket " + e + "'@0=0 rules(0,2,3,5)=" + due;
    }

    /** w is 2, m 3, t 5. */
    private static void grammar(Ledger l) {
        l.told("E, the loosest first: OR: AND { | AND }; AND: TEST { & TEST }; TEST: SUM [ (< | = | >) SUM ]; "
            + "SUM: TERM { (+ | -) TERM }; TERM: PART { (* | /) PART };");
        l.run("OR, none, one, two", worth("0", 0) + " 'ticket 0|7'@0 rules(0,0,0,0)=1 'ticket 0|0|7'@0 rules(0,0,0,0)=1 'ticket 0|0|0'@0 "
            + "rules(0,0,0,0)=0");
        l.run("OR is looser than AND", worth("1|0&0", 1));
        l.run("and on the other side", worth("0&0|1", 1));
        l.run("AND, one, two", worth("7&7", 1) + " 'ticket 7&7&0'@0 rules(0,0,0,0)=0 'ticket 0&7&7'@0 rules(0,0,0,0)=0 'ticket 7&7&7'@0 "
            + "rules(0,0,0,0)=1");
        l.run("AND is looser than TEST", worth("w&m=3", 1));
        l.run("and on the other side", worth("m=3&w", 1));
        l.run("TEST, none and one", worth("w", 2) + " 'ticket w<3'@0 rules(0,2,0,0)=1");
        l.run("TEST, not two", "'ticket w<3<4'@0=-110 'ticket w=3>4'@0=-110 'ticket w>3+1=4'@0=-112 'ticket 1=1|w<3<4'@0=-114");
        l.run("TEST in brackets, two", worth("(w<3)<4", 1));
        l.run("a TEST on each side of & and of |", worth("w<3&m>2", 1) + " 'ticket w>3|m<3'@0=1 rules(0,2,3,5)=0");
        l.run("TEST is looser than SUM", worth("w+3=5", 1));
        l.run("and on the other side", worth("5=w+3", 1));
        l.run("SUM to the left", worth("9-w-m", 4) + " 'ticket 9-w+m'@0 rules(0,2,3,5)=10");
        l.run("SUM is looser than TERM", worth("w+m*t", 17) + " 'ticket w*m+t'@0 rules(0,2,3,5)=11 'ticket 9-8/w'@0 rules(0,2,3,5)=5");
        l.run("TERM to the left", worth("80/4*w", 40) + " 'ticket 7*m/w'@0 rules(0,2,3,5)=10 'ticket 80/m/w'@0 rules(0,2,3,5)=13");
        l.run("each sign wants a PART behind it", "'ticket w|'@0=-109 'ticket w&'@0=-109 'ticket w<'@0=-109 'ticket w='@0=-109 "
            + "'ticket w>'@0=-109 'ticket w+'@0=-109 'ticket w-'@0=-109 'ticket w*'@0=-109 'ticket w/'@0=-109");
        l.run("and one ahead of it", "'ticket |w'@0=-107 'ticket &w'@0=-107 'ticket <w'@0=-107 'ticket =w'@0=-107 "
            + "'ticket >w'@0=-107 'ticket +w'@0=-107 'ticket -w'@0=-107 'ticket *w'@0=-107 'ticket /w'@0=-107");
        l.run("not two signs", "'ticket w||w'@0=-109 'ticket w&&w'@0=-109 'ticket w<=w'@0=-109 'ticket w==w'@0=-109 'ticket w+-w'@0=-109");
        l.told("PART: NUMBER (1 to 4 digits) | NAME | ! PART | ( E ).");
        l.run("1 digit", worth("0", 0) + " 'ticket 9'@0=1 rules(0,0,0,0)=9");
        l.run("2 and 3 digits", worth("10", 10) + " 'ticket 999'@0=1 rules(0,0,0,0)=999");
        l.run("4 digits", worth("9999", 9999) + " 'ticket 1000'@0=1 rules(0,0,0,0)=1000 'ticket 0001'@0=2 rules(0,0,0,0)=1");
        l.run("5 digits", "'ticket 10000'@0=-107 'ticket 00001'@0=-107 'ticket 1+10000'@0=-109");
        l.run("! of one PART", worth("!w", 0) + " 'ticket !0'@0=1 rules(0,0,0,0)=1 'ticket !w+7'@0 rules(0,2,3,5)=7 'ticket !(w+7)'@0 "
            + "rules(0,2,3,5)=0");
        l.run("! ahead of *", worth("!0*7", 7));
        l.run("! of none", "'ticket !'@0=-108 'ticket w!'@0=-108 'ticket !)'@0=-108 'ticket !+w'@0=-108");
        l.run("brackets", worth("(w+m)*t", 25) + " 'ticket ((w))'@0=1 rules(0,2,3,5)=2 'ticket (w|m)+t'@0=2 rules(0,2,3,5)=6");
        l.run("brackets of nothing", "'ticket ()'@0=-108");
        l.run("a bracket too many", "'ticket w)'@0=-108 'ticket (w))'@0=-110 'ticket )'@0=-107");
        l.run("a bracket too few", "'ticket (w'@0=-109 'ticket ((w)'@0=-111 'ticket ('@0=-108");
        l.run("no sign between PARTS", "'ticket (w)(m)'@0=-110 'ticket w(m)'@0=-108 'ticket (w)m'@0=-110 'ticket w m'@0=-109 'ticket 1 2'@0=-109 "
            + "'ticket w !m'@0=-109");
    }

    private static void names(Ledger l) {
        l.told("NAMES, each one letter: of ticket, pardon w WEEKS since he landed, m MARKS that he HAS, t TERM; of irons o the OFFENCE, "
            + "m MARKS that he HAS, and 1; of fear k KIND of his STATE, m, p the PLACE; of stop e what he earns in a WEEK, d his DEED.");
        for (int key = 0; key < KEYS.length; key++) l.run("letters of " + KEYS[key], allLetters(key));
        for (int key = 0; key < KEYS.length; key++) {
            String name = NAMES[key].substring(0, 1);
            l.run("two letters, " + KEYS[key], "'" + KEYS[key] + " " + name + name + "'@0=" + (-101 - KEYS[key].length()));
        }
        l.run("w of ticket", LANDED + "'ticket w=0'@0 ticket(0)=NO 'ticket w=2'@0 ticket(0)=NO 'ticket w=1'@0 ticket(0)=1");
        l.run("m of ticket", LANDED + "3*mark(0,0) voids(0,1) 'ticket m=3'@0 ticket(0)=NO 'ticket m=1'@0 ticket(0)=NO 'ticket m=2'@0 ticket(0)=1");
        l.run("t of ticket", TermsShore.ABOARD + "term(0,77) run(2) 'ticket t=76'@0 ticket(0)=NO 'ticket t=78'@0 ticket(0)=NO 'ticket t=77'@0 "
            + "ticket(0)=1");
        l.run("w of pardon", LANDED + "'pardon w=0'@0 pardon(0,0)=NO 'pardon w=2'@0 pardon(0,0)=NO 'pardon w=1'@0 pardon(0,0)=1");
        l.run("m of pardon", LANDED + "3*mark(0,0) voids(0,1) 'pardon m=3'@0 pardon(0,0)=NO 'pardon m=2'@0 pardon(0,0)=1");
        l.run("t of pardon", LANDED + "'pardon t=363'@0 pardon(0,0)=NO 'pardon t=364'@0 pardon(0,0)=1");
        l.run("o of irons", LANDED + "'irons o*10'@0 runs(0) caught(0)=32");
        l.run("m of irons, and 1", LANDED + "'irons m'@0 runs(0) caught(0)=3 runs(0) caught(0)=4 voids(0,1) runs(0) caught(0)=4");
        l.run("m of irons, with no room", "ship(0,1) 2*man(0,0,0,20,0) run(2) 40*mark(1,0) 'irons m*7'@0 runs(0) caught(0)=9 told(0,8)=0");
        l.run("m of irons in a WEEK", LANDED + "'irons m*3'@0 'fear 100'@0 run(1) told(0,6)=5 run(1) told(0,6)=9");
        l.run("k of fear", "ship(0,1) 2*man(0,0,0,20,0) run(2) master(0,63,1,1) assign(1,0) 'irons 0'@0 'fear (k=2)*100'@0 run(1) told(0,8)=0 "
            + "told(1,8)=1");
        l.run("m of fear", "ship(0,1) 2*man(0,0,0,20,0) run(2) mark(1,0) 'irons 0'@0 'fear (m=1)*100'@0 run(1) told(0,8)=0 told(1,8)=2 run(1) "
            + "told(1,8)=2");
        l.run("p of fear", "ship(0,1) ship(5,1) man(0,0,0,20,0) man(1,0,0,20,0) run(2) 'irons 0'@0 'fear (p=5)*100'@0 run(1) told(0,8)=0 "
            + "told(1,8)=1");
        l.run("e of stop", "ship(0,1) 2*man(0,0,0,20,0) run(2) 'ticket 1'@0 ticket(0) master(0,63,1,40) assign(1,0) 'stop (e=40)*e'@0 run(1) "
            + "told(0,9)=5 told(1,9)=0 count(18)=40");
        l.run("d of stop", "ship(0,1) man(0,0,0,20,0) man(0,7,0,20,0) run(2) master(0,63,2,40) 2*assign(#,0) 'stop d'@0 run(1) told(0,9)=40 "
            + "told(1,9)=33 count(18)=7");
    }

    private static String allLetters(int key) {
        StringBuilder all = new StringBuilder();
        int taken = 0;
        for (char c = 'a'; c <= 'z'; c++) {
            boolean isName = NAMES[key].indexOf(c) >= 0;
            int due = isName ? taken++ : -101 - KEYS[key].length();
            all.append("'").append(KEYS[key]).append(' ').append(c).append("'@0=").append(due).append(' ');
        }
        return all.toString();
    }

    /** What comes of 'ticket w' with one byte more. */
    private static int dueWith(int one) {
        if (one == ' ') return 0;
        if (one >= 'a' && one <= 'z') return -107;
        return "|&<=>+-*/".indexOf(one) >= 0 ? -109 : -108;
    }

    private static void words(Ledger l) {
        l.told("A word is a row of letters a .. z, or of digits, as long as it goes; any other byte is a sign by itself.");
        for (int one = 0; one < 256; one++) {
            l.run("byte " + one, String.format("'ticket w~%02x'@0=%d", one, dueWith(one)));
        }
        l.run("the least letter and the byte ahead", "'ticket wa'@0=-107 'ticket w~60'@0=-108");
        l.run("the greatest letter and the byte behind", "'ticket wz'@0=-107 'ticket w~7b'@0=-108");
        l.run("the least digit and the byte ahead", "'ticket 10'@0=0 'ticket 1/'@0=-109");
        l.run("the greatest digit and the byte behind", "'ticket 19'@0=0 'ticket 1:'@0=-108");
        l.run("signs stand by themselves", "'ticket !!w'@0=0 'ticket ((w))'@0=1 'ticket !(!w)'@0=2");
        l.told("Between words and signs, and at the ends, there may be blanks (byte 32); a word right behind another one needs one.");
        l.run("none", "'ticket(w+1)*!m'@0=0");
        l.run("one each", "' ticket ( w + 1 ) * ! m '@0=0");
        l.run("many", "'   ticket   (   w   +   1   )   '@0=0");
        l.run("not within a word", "'tic ket w'@0=-100 'ticket 1 0'@0=-109");
        l.run("no other byte is a blank", "'ticket~1fw'@0=-106 'ticket~09w'@0=-106 'ticket~0aw'@0=-106 'ticket~00w'@0=-106 'ticket~a0w'@0=-106 "
            + "'ticket~21w'@0=0");
        l.run("a word right behind another", "'ticket1'@0=-106 'ticket 1'@0=0 'ticket w1'@0=-108 'ticket 1w'@0=-108");
        l.run("not behind a sign", "'ticket(w)'@0=0 'ticket !w'@0=1 'ticket 1+w'@0=2");
    }

    private static void faults(Ledger l) {
        l.told("FAULT: the first byte of the first word or sign with which no TEXT goes on (a word that needs a blank ahead of it, "
            + "a NUMBER of more than 4 digits, the ninth ( that would be open within others, the ninth ! likewise, each by itself); "
            + "the end (the place behind the last byte), if it comes too soon.");
        l.run("the first of two", "'ticket ww zz'@0=-107 'zz ww'@0=-100 'ticket w+ ) )'@0=-110");
        l.run("of a word its first byte", "'ticket w+zzz'@0=-109 '  zzz'@0=-102");
        l.run("a blank is needed", "'stop1'@0=-104 'stop e1'@0=-106");
        l.run("a NUMBER of 4 and of 5 digits", "'stop 1234'@0=0 'stop 12345'@0=-105 'stop  12345'@0=-106");
        l.run("eight (", "'stop ((((((((1))))))))'@0=0");
        l.run("nine (", "'stop (((((((((1)))))))))'@0=-113");
        l.run("eight ( again, not within others", "'stop ((((((((1))))))))+((((((((1))))))))'@0=0");
        l.run("nine ( behind eight", "'stop (1)+(((((((((1'@0=-117");
        l.run("the ninth ( within seven", "'stop (((((((1+(1)+((1'@0=-119 'stop (((((((1+(1)+(1'@0=-120");
        l.run("eight !", "'stop !!!!!!!!1'@0=0 rules(4,9,0,0)=1");
        l.run("nine !", "'stop !!!!!!!!!1'@0=-113");
        l.run("eight ! again, not within others", "'stop !!!!!!!!1+!!!!!!!!1'@0=0 rules(4,9,0,0)=2");
        l.run("! within brackets within !", "'stop !!!!(!!!!1)'@0=0 'stop !!!!(!!!!!1)'@0=-114");
        l.run("a ! ends with its PART", "'stop !!!!!!!!(1)+!1'@0=0 'stop !!!!!!!(!1+!1)'@0=1 'stop !!!!!!!(!1+!!1)'@0=-117");
        l.run("each by itself", "'stop !(!(!(!(!(!(!(!(1))))))))'@0=0 'stop !(!(!(!(!(!(!(!((1'@0=-121 'stop !(!(!(!(!(!(!(!(!1'@0=-121");
        l.run("the end of nothing", "''@0=-100 ' '@0=-101");
        l.run("the end behind the KEY", "'stop'@0=-104 'stop  '@0=-106");
        l.run("the end behind a sign", "'stop e+'@0=-107 'stop e+ '@0=-108 'stop !'@0=-106");
        l.run("the end within brackets", "'stop (e'@0=-107 'stop (e  '@0=-109 'stop (e)'@0=0");
    }

    private static void numbers(Ledger l) {
        l.told("Ints wrap; / is 0 by 0; tests, & | ! give 1 or 0 (what is not 0 is true; both sides are worked out).");
        l.run("+ at the greatest", "'ticket w+m'@0 rules(0,MAX,0,0)=MAX rules(0,MAX,1,0)=MIN rules(0,MAX,MAX,0)=-2");
        l.run("- at the least", "'ticket w-m'@0 rules(0,MIN,0,0)=MIN rules(0,MIN,1,0)=MAX rules(0,0,MIN,0)=MIN");
        l.run("*", "'ticket w*m'@0 rules(0,46340,46340,0)=2147395600 rules(0,46341,46341,0)=-2147479015 rules(0,65536,65536,0)=0 "
            + "rules(0,MIN,-1,0)=MIN");
        l.run("* of NUMBERS", "'ticket 9999*9999*9999'@0 rules(0,0,0,0)=-1027349969");
        l.run("/ of the least", "'ticket w/m'@0 rules(0,MIN,-1,0)=MIN rules(0,MIN,1,0)=MIN rules(0,MAX,-1,0)=-2147483647");
        l.run("by 0", "'ticket w/m'@0 rules(0,5,0,0)=0 rules(0,-5,0,0)=0 rules(0,0,0,0)=0 rules(0,MIN,0,0)=0 rules(0,5,1,0)=5");
        l.run("<", "'ticket w<m'@0 rules(0,1,2,0)=1 rules(0,2,2,0)=0 rules(0,3,2,0)=0 rules(0,MIN,MAX,0)=1 rules(0,MAX,MIN,0)=0");
        l.run("=", "'ticket w=m'@0 rules(0,1,2,0)=0 rules(0,2,2,0)=1 rules(0,3,2,0)=0 rules(0,MIN,MAX,0)=0");
        l.run(">", "'ticket w>m'@0 rules(0,1,2,0)=0 rules(0,2,2,0)=0 rules(0,3,2,0)=1 rules(0,MIN,MAX,0)=0 rules(0,MAX,MIN,0)=1");
        l.run("&", "'ticket w&m'@0 rules(0,2,4,0)=1 rules(0,2,0,0)=0 rules(0,0,2,0)=0 rules(0,0,0,0)=0 rules(0,-1,MIN,0)=1");
        l.run("|", "'ticket w|m'@0 rules(0,2,4,0)=1 rules(0,2,0,0)=1 rules(0,0,2,0)=1 rules(0,0,0,0)=0 rules(0,-1,0,0)=1");
        l.run("!", "'ticket !w'@0 rules(0,0,0,0)=1 rules(0,1,0,0)=0 rules(0,-1,0,0)=0 rules(0,MIN,0,0)=0");
        l.run("both sides, one by 0", "'ticket 1|1/w'@0 rules(0,0,0,0)=1 'ticket 0&1/w'@0 rules(0,0,0,0)=0 'ticket 1/w|1'@0 rules(0,0,0,0)=1");
    }

    private static void counting(Ledger l) {
        l.told("Of a KEY that TEXT counts in a WEEK which is in force, with the latest WEEK, of several the greatest number.");
        l.run("in force", "'irons 7'@3=0 run(2) why(2)=NONE rules(2,0,0,0)=4 run(1) why(2)=0 rules(2,0,0,0)=7");
        l.run("the latest WEEK, told first", "'irons 7'@2 'irons 8'@1 run(1) why(2)=1 run(1) why(2)=0 rules(2,0,0,0)=7");
        l.run("the latest WEEK, told last", "'irons 7'@1 'irons 8'@2 run(1) why(2)=0 run(1) why(2)=1 rules(2,0,0,0)=8");
        l.run("of several the greatest number", "'irons 7'@0 why(2)=0 'irons 8'@0 why(2)=1 'irons 9'@0 why(2)=2 rules(2,0,0,0)=9");
        l.run("of one KEY", "'irons 7'@0 'fear 8'@0 why(2)=0 why(3)=1 why(0)=NONE why(1)=NONE why(4)=NONE");
        l.told("THE RULE of a KEY is what its E gives; without a TEXT: ticket w > 208, pardon 0, irons 4, fear 0, stop 0.");
        l.run("ticket", "rules(0,208,9,9)=0 rules(0,209,0,0)=1 rules(0,MAX,0,0)=1 rules(0,MIN,0,0)=0");
        l.run("ticket of a man", TermsShore.ABOARD + "3*run(60) run(29)=209 ticket(0)=NO run(1)=210 ticket(0)=1");
        l.run("pardon", "rules(1,999,0,0)=0 rules(1,MAX,MAX,MAX)=0");
        l.run("irons", "rules(2,0,0,0)=4 rules(2,3,40,0)=4");
        l.run("fear", "rules(3,1,40,5)=0");
        l.run("stop", "rules(4,99,7,0)=0 rules(4,0,0,0)=0");
        l.run("a TEXT instead", "'ticket w'@0 rules(0,208,0,0)=208 rules(0,0,0,0)=0 'pardon w-m'@0 rules(1,1,5,0)=-4 rules(1,MAX,-1,0)=MIN");
        l.told("It is held: of irons 0 .. 99, of fear 0 .. 100, of stop 0 .. e.");
        l.run("irons", "'irons o'@0 rules(2,-1,0,0)=0 rules(2,0,0,0)=0 rules(2,1,0,0)=1 rules(2,98,0,0)=98 rules(2,99,0,0)=99 rules(2,100,0,0)=99 "
            + "rules(2,MIN,0,0)=0 rules(2,MAX,0,0)=99");
        l.run("fear", "'fear k'@0 rules(3,-1,0,0)=0 rules(3,0,0,0)=0 rules(3,1,0,0)=1 rules(3,99,0,0)=99 rules(3,100,0,0)=100 "
            + "rules(3,101,0,0)=100 rules(3,MIN,0,0)=0 rules(3,MAX,0,0)=100");
        l.run("stop", "'stop d'@0 rules(4,9,-1,0)=0 rules(4,9,0,0)=0 rules(4,9,1,0)=1 rules(4,9,8,0)=8 rules(4,9,9,0)=9 rules(4,9,10,0)=9 "
            + "rules(4,9,MIN,0)=0 rules(4,9,MAX,0)=9");
        l.run("stop of nothing", "'stop d'@0 rules(4,0,5,0)=0 rules(4,0,-5,0)=0");
        l.run("ticket and pardon are not held", "'ticket w'@0 rules(0,-5,0,0)=-5 rules(0,MAX,0,0)=MAX 'pardon w'@0 rules(1,-5,0,0)=-5 "
            + "rules(1,MAX,0,0)=MAX");
        l.run("irons above 99, in a WEEK and as he is CAUGHT", LANDED + "'irons 100'@0 runs(0) caught(0)=101 'fear 100'@0 run(1) told(0,6)=101");
        l.run("stop above what he earns", LANDED + "'ticket 1'@0 ticket(0) 'stop 6'@0 run(1) told(0,9)=0 count(18)=5");
        l.run("stop below 0", LANDED + "'ticket 1'@0 ticket(0) 'stop 0-6'@0 run(1) told(0,9)=5 count(18)=0");
    }

    private static void due(Ledger l) {
        l.told("DUE of a man (who has landed): the first of the 600 WEEKS from the open one on in which ticket "
            + "(m as now, w as it would be, by the TEXTS that count now) is not 0; NONE: none of these.");
        l.run("the open one", LANDED + "'ticket w=1'@0 due(0)=2");
        l.run("ahead of it", LANDED + "'ticket w=0'@0 due(0)=NONE");
        l.run("the last of 600", LANDED + "'ticket w=600'@0 due(0)=601");
        l.run("one more", LANDED + "'ticket w=601'@0 due(0)=NONE run(1) due(0)=602");
        l.run("the first of several", LANDED + "'ticket w>9'@0 due(0)=11");
        l.run("what is not 0, also below it", LANDED + "'ticket w-3'@0 due(0)=2 'ticket (w>4)*(0-1)'@0 due(0)=6");
        l.run("none", LANDED + "'ticket 0'@0 due(0)=NONE");
        l.run("m as now", LANDED + "'ticket w=m*10'@0 due(0)=NONE mark(0,0) due(0)=11 mark(0,0) due(0)=21 voids(0,1) due(0)=11");
        l.run("not by a TEXT to come", LANDED + "'ticket w>9'@0 'ticket 1'@3 due(0)=11 run(1) due(0)=3");
        l.run("without a TEXT", LANDED + "due(0)=210 'ticket 1'@3 due(0)=210");
        l.run("from the last WEEK on", "33*run(60) run(10)=1990 ship(0,1991) man(0,0,0,20,0) run(9)=1999 due(0)=2200");
        l.told("MOVES of a MARK (not VOID): DUE of its man as it is, less DUE if it were VOID (NONE: either is NONE).");
        l.run("later", LANDED + "'ticket w>m*7'@0 mark(0,0) moves(0)=7 due(0)=9");
        l.run("not at all", LANDED + "mark(0,0) moves(0)=0");
        l.run("sooner", LANDED + "'ticket w+m*7>20'@0 mark(0,0) moves(0)=-7");
        l.run("one of two", LANDED + "'ticket w>m*7'@0 2*mark(0,0) moves(0)=7 moves(1)=7 voids(0,1) moves(0)=NO moves(1)=7");
        l.run("none as it is", LANDED + "'ticket w=601*m+5*!m'@0 mark(0,0) due(0)=NONE moves(0)=NONE");
        l.run("none if it were VOID", LANDED + "'ticket w=600*m'@0 mark(0,0) due(0)=601 moves(0)=NONE");
        l.run("the last WEEK less the first", LANDED + "'ticket w=599*m+1'@0 mark(0,0) moves(0)=599");
    }
}
