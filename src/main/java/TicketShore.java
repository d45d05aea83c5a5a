import java.util.Arrays;

/** A shore to which a land sends its men; ../shared/DOC.md says what each call answers. */
public final class TicketShore {
    public static final int BAD = -1000000001, NO = -1000000002, FULL = -1000000003, NONE = -1000000005,
            NOTHING = -1000000011, KIND = -1000000012, INDEX = -1000000013, SIZE = -1000000014;

    private static final int LAST_WEEK = 1999;
    private static final int PLACES = 6;
    private static final int ALL_BITS = 255;
    private static final int WAITING_MOST = 60;
    private static final int TAPE_MOST = 96;
    private static final int TEXTS_MOST = 14;
    private static final int MEN_MOST = 14;
    private static final int MASTERS_MOST = 6;

    private static final int BOUND = 1, ASSIGNED = 2, IRONED = 3, TICKET = 4, PARDON = 5, FREE = 6, RUN = 7;
    private static final int[] KIND_ABOVE = {-1, 0, 1, 1, 1, 0, 0, 1};

    private static final int BY_TICKET = 0, BY_PARDON = 1, BY_IRONS = 2, BY_FEAR = 3, BY_STOP = 4, KEYS = 5;

    // The columns of a man up to DEAD are numbered as told(man, what) asks for them; 8 is counted, not held.
    private static final int DEED = 0, TRADE = 1, AGE = 2, SKIN = 3, PLACE = 4, STATE = 5, STATE_A = 6,
            SINCE = 7, HAS_MARKS = 8, BANK = 9, LANDED = 10, DEAD = 11, ABOARD_OF = 12, TERM = 13, MAN_WIDTH = 14;
    private static final int SHIP_PLACE = 0, SHIP_WEEK = 1;
    private static final int MASTER_PLACE = 0, MASTER_TRADES = 1, MASTER_HANDS = 2, MASTER_WAGE = 3, MASTER_HAS = 4;
    private static final int MARK_MAN = 0, MARK_VOID = 3;
    private static final int LETTER_MAN = 0, LETTER_DUE = 2, LETTER_CAME = 3, LETTER_LATE = 4;
    private static final int JUDGE = 0, JUDGED_DEED = 1, LASHES = 2;
    private static final int STORE = 0, HUNGRY = 1;
    private static final int VOTES = 0, WANTED = 1, NOT_HAD = 2;

    private final Shore now = new Shore();
    private final Shore image = new Shore();
    private final Shore trial = new Shore();
    private boolean imageKept;
    private final Tape tape = new Tape();
    private final Assigning assigning = new Assigning();
    private final Musters musters = new Musters();
    private final int[] waiting = new int[WAITING_MOST];
    private int waits;

    public TicketShore() {
    }

    // ---- ships, men

    public int ship(int place, int week) {
        if (!isPlace(place) || !within(week, now.week + 1, LAST_WEEK)) return BAD;
        return now.ships.add(place, week, 0, 0);
    }

    public int man(int ship, int deed, int trade, int age, int skin) {
        if (!now.ships.holds(ship) || now.ships.get(ship, SHIP_WEEK) < now.week) return BAD;
        if (!within(deed, 0, 7) || !within(trade, 0, 5)) return BAD;
        if (!within(age, 10, 70) || !within(skin, 0, ALL_BITS)) return BAD;
        int man = now.men.add(deed, trade, age, skin);
        if (man != FULL) now.embark(man, ship);
        return man;
    }

    public int term(int man, int v) {
        if (!now.men.holds(man) || !within(v, 1, 999)) return BAD;
        if (now.hasLanded(man)) return NO;
        return now.men.swap(man, TERM, v);
    }

    public int told(int man, int what) {
        if (!now.men.holds(man) || !within(what, 0, DEAD)) return BAD;
        return what == HAS_MARKS ? now.marksOf(man) : now.men.get(man, what);
    }

    public int as(int man, int kind) {
        if (!now.men.holds(man) || !within(kind, 0, RUN)) return BAD;
        if (!isUnder(now.men.get(man, STATE), kind)) return KIND;
        return now.men.get(man, STATE_A);
    }

    public int dies(int man) {
        if (!now.men.holds(man)) return BAD;
        if (now.isDead(man)) return NO;
        now.men.set(man, DEAD, 1);
        now.men.set(man, PLACE, NONE);
        return 1;
    }

    public int master(int place, int trades, int hands, int wage) {
        if (!isPlace(place) || !within(trades, 0, 63)) return BAD;
        if (!within(hands, 0, 9) || !within(wage, 0, 99)) return BAD;
        return now.masters.add(place, trades, hands, wage);
    }

    public int has(int master, int what) {
        if (!now.masters.holds(master) || !within(what, 0, MASTER_HAS)) return BAD;
        return what == MASTER_HAS ? now.assignedTo(master) : now.masters.get(master, what);
    }

    public int store(int place, int v) {
        if (!isPlace(place) || !within(v, 0, 9999)) return BAD;
        return now.places.swap(place, STORE, v);
    }

    public int hungry(int place) {
        return isPlace(place) ? now.places.get(place, HUNGRY) : BAD;
    }

    // ---- texts

    public int feed(int a, int b, int c) {
        return tape.append(a, b, c) ? tape.length : FULL;
    }

    public int trim(int n) {
        if (!within(n, 0, tape.length)) return BAD;
        tape.length = n;
        return n;
    }

    public int text(int week) {
        int fault = tape.faultPlace();
        tape.length = 0;
        if (!within(week, 0, LAST_WEEK)) return BAD;
        if (fault >= 0) return -100 - fault;
        return now.laws.add(tape.asText(week));
    }

    public int of(int text, int what) {
        Text one = now.laws.textAt(text);
        if (one == null) return BAD;
        switch (what) {
            case 0: return one.key;
            case 1: return one.week;
            case 2: return one.parts;
            default: return BAD;
        }
    }

    public int why(int key) {
        if (!within(key, 0, KEYS - 1)) return BAD;
        int text = now.laws.counting(key, now.week);
        return text < 0 ? NONE : text;
    }

    public int rules(int key, int a, int b, int c) {
        return within(key, 0, KEYS - 1) ? now.laws.rule(key, now.week, a, b, c) : BAD;
    }

    // ---- marks, acts

    public int mark(int man, int offence) {
        if (!now.men.holds(man) || !within(offence, 0, 3)) return BAD;
        if (now.isDead(man) || !now.hasLanded(man)) return NO;
        return now.marks.add(man, now.week, offence, 0);
    }

    public int voids(int mark, int on) {
        if (!now.marks.holds(mark) || !within(on, 0, 1)) return BAD;
        return now.marks.swap(mark, MARK_VOID, on);
    }

    public int markTold(int mark, int what) {
        if (!now.marks.holds(mark) || !within(what, 0, MARK_VOID)) return BAD;
        return now.marks.get(mark, what);
    }

    public int due(int man) {
        if (!now.men.holds(man)) return BAD;
        if (now.isDead(man) || !now.hasLanded(man)) return NO;
        return now.ticketWeek(man, now.marksOf(man));
    }

    public int moves(int mark) {
        if (!now.marks.holds(mark)) return BAD;
        int man = now.marks.get(mark, MARK_MAN);
        if (now.marks.get(mark, MARK_VOID) == 1 || now.isDead(man)) return NO;
        int marks = now.marksOf(man);
        int with = now.ticketWeek(man, marks);
        int without = now.ticketWeek(man, marks - 1);
        return with == NONE || without == NONE ? NONE : with - without;
    }

    public int assign(int man, int master) {
        if (!now.men.holds(man) || !now.masters.holds(master)) return BAD;
        if (now.men.get(man, STATE) != BOUND) return KIND;
        if (!now.isWantedBy(man, master) || now.freeHands(master) <= 0) return NO;
        now.become(man, ASSIGNED, master);
        return 1;
    }

    public int back(int man) {
        if (!now.men.holds(man)) return BAD;
        if (now.men.get(man, STATE) != ASSIGNED) return KIND;
        if (now.isDead(man)) return NO;
        int master = now.men.get(man, STATE_A);
        now.become(man, BOUND, 0);
        return master;
    }

    public int ticket(int man) {
        if (!now.men.holds(man)) return BAD;
        if (!within(now.men.get(man, STATE), BOUND, ASSIGNED)) return KIND;
        if (!now.isAtPlace(man) || now.mercy(BY_TICKET, man) == 0) return NO;
        now.become(man, TICKET, now.men.get(man, PLACE));
        return 1;
    }

    public int pardon(int man, int condition) {
        if (!now.men.holds(man) || !within(condition, 0, 1)) return BAD;
        if (!now.isServing(man)) return KIND;
        if (!now.isAtPlace(man) || now.mercy(BY_PARDON, man) == 0) return NO;
        now.become(man, PARDON, condition);
        return 1;
    }

    public int runs(int man) {
        if (!now.men.holds(man)) return BAD;
        if (!now.isServing(man)) return KIND;
        if (!now.isAtPlace(man)) return NO;
        now.become(man, RUN, now.men.get(man, PLACE));
        now.men.set(man, PLACE, NONE);
        return 1;
    }

    public int caught(int man) {
        if (!now.men.holds(man)) return BAD;
        if (now.men.get(man, STATE) != RUN) return KIND;
        if (now.isDead(man)) return NO;
        now.men.set(man, PLACE, now.men.get(man, STATE_A));
        int irons = Math.max(1, now.ironsForOneMore(man, 3));
        now.become(man, IRONED, now.week + irons);
        return now.week + irons;
    }

    public int seed(int v) {
        if (!within(v, 0, 65535)) return BAD;
        int was = now.seed;
        now.seed = v;
        return was;
    }

    public int run(int n) {
        if (!within(n, 1, 60)) return BAD;
        if (now.week + n > LAST_WEEK) return FULL;
        for (int i = 0; i < n; i++) now.passWeek();
        return now.week;
    }

    // ---- paths, looks, assigning, sentences

    public int path(int one, int other, int v) {
        if (!isPlace(one) || !isPlace(other) || one == other || !within(v, 0, 99)) return BAD;
        now.paths.set(other, one, v);
        return now.paths.swap(one, other, v);
    }

    public int reach(int place, int f) {
        if (!isPlace(place) || !within(f, 0, 99)) return BAD;
        return Reckoning.reached(now.paths, place, f * 7);
    }

    public int look(int deed, int trade, int age, int skin) {
        if (!within(deed, 0, 8) || !within(trade, 0, 6)) return BAD;
        if (!within(age, 0, 70) || !within(skin, 0, ALL_BITS)) return BAD;
        return now.looks.add(deed, trade, age, skin);
    }

    public int may(int look, int what) {
        if (!now.looks.holds(look)) return BAD;
        int men = now.menWhoMayBe(look);
        switch (what) {
            case 0: return men;
            case 1: return Integer.bitCount(men) == 1 ? Integer.numberOfTrailingZeros(men) : NONE;
            case 2: return Integer.bitCount(men) < 2 ? NONE : now.partingBit(men);
            default: return BAD;
        }
    }

    public int same(int one, int other) {
        if (!now.looks.holds(one) || !now.looks.holds(other) || one == other) return BAD;
        int first = now.menWhoMayBe(one);
        int second = now.menWhoMayBe(other);
        if (first == second && Integer.bitCount(first) == 1) return 2;
        return (first & second) != 0 ? 1 : 0;
    }

    public int goes(int man) {
        if (!now.men.holds(man)) return BAD;
        assigning.ask(now);
        return assigning.masterFor(man);
    }

    public int most() {
        assigning.ask(now);
        return assigning.greatest(0);
    }

    public int sentence(int judge, int deed, int lashes) {
        if (!within(judge, 0, 3) || !within(deed, 0, 7) || !within(lashes, 0, 300)) return BAD;
        return now.sentences.add(judge, deed, lashes, 0);
    }

    public int mean(int judge, int deed) {
        if (!within(judge, 0, 3) || !within(deed, 0, 7)) return BAD;
        return Reckoning.meanLashes(now.sentences, judge, deed, true);
    }

    public int harsh(int deed) {
        return within(deed, 0, 7) ? Reckoning.harshJudges(now.sentences, deed) : BAD;
    }

    // ---- letters, the vote, plans

    public int letter(int man, int way, int n) {
        if (!now.men.holds(man) || !within(way, 0, 1) || !within(n, 1, 99)) return BAD;
        if (way == 1 && now.isDead(man)) return NO;
        return now.letters.add(man, way, now.week + n, 0);
    }

    public int letterTold(int letter, int what) {
        if (!now.letters.holds(letter) || !within(what, 0, LETTER_LATE)) return BAD;
        return now.letters.get(letter, what);
    }

    public int party(int party, int what, int v) {
        if (!within(party, 0, 6) || !within(what, VOTES, NOT_HAD)) return BAD;
        if (!within(v, 0, what == VOTES ? 99 : ALL_BITS)) return BAD;
        return now.parties.swap(party, what, v);
    }

    public int carries(int n) {
        return within(n, 1, 999) ? Reckoning.carryingSet(now.parties, n) : BAD;
    }

    public int way(int year, int way, int what, int v) {
        if (!within(year, 0, 5) || !within(way, 0, 2)) return BAD;
        if (!within(what, 0, 1) || !within(v, 0, 99)) return BAD;
        return now.ways.swap(year, way * 2 + what, v);
    }

    public int plan(int n, int f, int what) {
        if (!within(n, 1, 6) || !within(f, 0, 999) || !within(what, 0, 2)) return BAD;
        int best = Reckoning.bestPlan(now.ways, n, f);
        if (best == NONE || what == 2) return best;
        return Reckoning.planSum(now.ways, n, best, what);
    }

    // ---- musters

    public int muster(int muster, int sort, int n) {
        if (!musters.isOne(muster) || !within(sort, -1, 1)) return BAD;
        if (sort == -1) return musters.shape(muster, -1, 0);
        if (n > Musters.WIDTH) return BAD;
        return n < 0 ? SIZE : musters.shape(muster, sort, n);
    }

    public int put(int muster, int place, int v) {
        int finding = musters.finding(muster, place);
        if (finding != 0) return finding;
        musters.write(muster, place, v);
        return 1;
    }

    public int read(int muster, int place) {
        int finding = musters.finding(muster, place);
        return finding != 0 ? finding : musters.nearest(muster, place);
    }

    public int copy(int from, int place, int to, int at, int many) {
        if (!musters.isOne(from) || !musters.isOne(to)) return BAD;
        if (musters.isMissing(from) || musters.isMissing(to)) return NOTHING;
        if (!musters.alike(from, to)) return KIND;
        if (!musters.hasRow(from, place, many) || !musters.hasRow(to, at, many)) return INDEX;
        musters.move(from, place, to, at, many);
        return many;
    }

    // ---- rows, images

    public int tell(int v) {
        if (waits < 0 || waits >= waiting.length) return FULL;
        waiting[waits] = v;
        waits++;
        return waits;
    }

    public int check(int n) {
        int many = waits;
        waits = 0;
        if (!within(n, 1, 30)) return BAD;
        if (!imageKept) return NO;
        trial.becomeAs(image);
        for (int i = 0; i < n; i++) {
            trial.passWeek();
            if (!waited(2 * i, many, trial.liveMarks())) return 1 + 2 * i;
            if (!waited(2 * i + 1, many, trial.inBanks())) return 2 + 2 * i;
        }
        return many == 2 * n ? 0 : 1 + 2 * n;
    }

    public int keep() {
        image.becomeAs(now);
        imageKept = true;
        return now.week;
    }

    public int again() {
        if (!imageKept) return NO;
        now.becomeAs(image);
        return now.week;
    }

    public int count(int what) {
        if (within(what, 4, 11)) return now.livingOfKind(what - 4);
        switch (what) {
            case 0: return now.ships.rows;
            case 1: return now.men.rows;
            case 2: return now.deadMen();
            case 3: return now.menAboard();
            case 12: return now.masters.rows;
            case 13: return now.marks.rows;
            case 14: return now.laws.size;
            case 15: return now.looks.rows;
            case 16: return now.sentences.rows;
            case 17: return now.letters.rows;
            case 18: return now.chest;
            case 19: return waits;
            case 20: return tape.length;
            case 21: return now.week;
            case 22: return now.seed;
            default: return BAD;
        }
    }

    private boolean waited(int index, int many, int wanted) {
        return index >= 0 && index < many && index < waiting.length && waiting[index] == wanted;
    }

    private static boolean within(int v, int least, int greatest) {
        return v >= least && v <= greatest;
    }

    private static boolean isPlace(int place) {
        return within(place, 0, PLACES - 1);
    }

    private static boolean isUnder(int kind, int wanted) {
        int at = kind;
        for (int step = 0; step < KIND_ABOVE.length; step++) {
            if (at == wanted) return true;
            if (at < 0 || at >= KIND_ABOVE.length) return false;
            at = KIND_ABOVE[at];
        }
        return false;
    }

    /** Rows of numbers; whatever is asked, no index leaves the cells. */
    private static final class Table {
        private final int width;
        private final int[] cells;
        private int rows;

        Table(int width, int rowsMost) {
            this.width = Math.max(1, width);
            this.cells = new int[Math.max(1, width) * Math.max(0, rowsMost)];
        }

        boolean holds(int row) {
            return row >= 0 && row < rows;
        }

        int get(int row, int column) {
            int at = row * width + column;
            boolean there = row >= 0 && column >= 0 && column < width;
            return there && at >= 0 && at < cells.length ? cells[at] : 0;
        }

        void set(int row, int column, int v) {
            int at = row * width + column;
            boolean there = row >= 0 && column >= 0 && column < width;
            if (there && at >= 0 && at < cells.length) cells[at] = v;
        }

        int swap(int row, int column, int v) {
            int was = get(row, column);
            set(row, column, v);
            return was;
        }

        /** Rows behind the last are all 0, also as an image brings its own: further columns begin so. */
        int add(int a, int b, int c, int d) {
            int row = rows;
            if ((row + 1) * width > cells.length) return FULL;
            rows++;
            set(row, 0, a);
            set(row, 1, b);
            set(row, 2, c);
            set(row, 3, d);
            return row;
        }

        void becomeAs(Table other) {
            System.arraycopy(other.cells, 0, cells, 0, Math.min(other.cells.length, cells.length));
            rows = other.rows;
        }
    }

    /** THE TAPE, and its reading as a TEXT: signs wait until the parts that they bind stand among the steps. */
    private static final class Tape {
        private static final int END = 0, LETTERS = 1, DIGITS = 2, SIGN = 3;
        private static final int TEST_RANK = 3, OPEN_MOST = 8, DIGITS_MOST = 4;

        private final byte[] bytes = new byte[TAPE_MOST];
        private int length;
        private int start, end, sort;
        private boolean needsBlank, wantsPart;
        private final int[] steps = new int[TAPE_MOST];
        private final int[] signs = new int[TAPE_MOST];
        private int stepMany, signMany;
        private int key, parts, openBrackets, openNots;

        boolean append(int a, int b, int c) {
            if (length < 0 || length + 12 > bytes.length) return false;
            appendOne(a);
            appendOne(b);
            appendOne(c);
            return true;
        }

        private void appendOne(int v) {
            for (int shift = 24; shift >= 0; shift -= 8) {
                if (length >= 0 && length < bytes.length) bytes[length] = (byte) (v >> shift);
                length++;
            }
        }

        /** The byte as 0 .. 255; -1 behind the end. */
        int byteAt(int place) {
            return place >= 0 && place < length && place < bytes.length ? bytes[place] & 255 : -1;
        }

        /** The place of the FAULT, or -1. */
        int faultPlace() {
            begin();
            next();
            key = keyHere();
            if (key < 0) return start;
            for (int i = 0; i <= TAPE_MOST; i++) {
                next();
                if (sort == END) return endsTooSoon() ? start : -1;
                if (needsBlank || !(wantsPart ? takesPart() : takesJoin())) return start;
            }
            return start;
        }

        Text asText(int week) {
            settle(1);
            return new Text(key, week, parts, Arrays.copyOf(steps, Math.max(0, stepMany)));
        }

        private void begin() {
            start = 0;
            end = 0;
            sort = END;
            wantsPart = true;
            stepMany = 0;
            signMany = 0;
            parts = 0;
            openBrackets = 0;
            openNots = 0;
        }

        private boolean endsTooSoon() {
            return wantsPart || openBrackets > 0;
        }

        private void next() {
            boolean behindWord = sort == LETTERS || sort == DIGITS;
            start = end;
            while (start < TAPE_MOST && byteAt(start) == ' ') start++;
            needsBlank = behindWord && start == end && sortAt(start) != SIGN;
            sort = sortAt(start);
            end = sort == END ? start : start + 1;
            if (sort == LETTERS || sort == DIGITS) {
                while (end < TAPE_MOST && sortAt(end) == sort) end++;
            }
        }

        private int sortAt(int place) {
            int one = byteAt(place);
            if (one < 0) return END;
            if (one >= 'a' && one <= 'z') return LETTERS;
            return one >= '0' && one <= '9' ? DIGITS : SIGN;
        }

        private int keyHere() {
            for (int one = 0; one < KEYS; one++) {
                if (isWord(keyWord(one))) return one;
            }
            return -1;
        }

        private boolean isWord(String word) {
            if (end - start != word.length()) return false;
            for (int i = 0; i < word.length(); i++) {
                if (byteAt(start + i) != word.charAt(i)) return false;
            }
            return true;
        }

        private static String keyWord(int key) {
            switch (key) {
                case BY_TICKET: return "ticket";
                case BY_PARDON: return "pardon";
                case BY_IRONS: return "irons";
                case BY_FEAR: return "fear";
                default: return "stop";
            }
        }

        private static String namesOf(int key) {
            switch (key) {
                case BY_TICKET: return "wmt";
                case BY_PARDON: return "wmt";
                case BY_IRONS: return "om";
                case BY_FEAR: return "kmp";
                default: return "ed";
            }
        }

        private boolean takesPart() {
            if (sort == DIGITS) return end - start <= DIGITS_MOST && takesValue(numberHere());
            if (sort == LETTERS) {
                int name = end - start == 1 ? namesOf(key).indexOf((char) byteAt(start)) : -1;
                return name >= 0 && takesValue(-1 - name);
            }
            int sign = byteAt(start);
            if (sign == '!' && openNots < OPEN_MOST) {
                openNots++;
                return waitsWith(sign);
            }
            if (sign == '(' && openBrackets < OPEN_MOST) {
                openBrackets++;
                return waitsWith(sign);
            }
            return false;
        }

        private int numberHere() {
            int number = 0;
            for (int place = start; place < end; place++) number = number * 10 + byteAt(place) - '0';
            return number;
        }

        private boolean takesValue(int step) {
            write(step);
            parts++;
            endPart();
            return true;
        }

        /** A NOT binds the one PART behind it, so it is worked out as soon as that PART stands. */
        private void endPart() {
            for (int i = 0; i < OPEN_MOST && topSign() == '!'; i++) {
                write(-takeSign());
                openNots--;
            }
            wantsPart = false;
        }

        private boolean takesJoin() {
            int sign = byteAt(start);
            if (sign == ')') return takesClosing();
            int rank = rankOf(sign);
            if (rank == 0) return false;
            settle(rank + 1);
            if (rank == TEST_RANK && rankOf(topSign()) == TEST_RANK) return false;
            settle(rank);
            wantsPart = true;
            return waitsWith(sign);
        }

        private boolean takesClosing() {
            if (openBrackets <= 0) return false;
            settle(1);
            takeSign();
            openBrackets--;
            endPart();
            return true;
        }

        /** The greater rank binds closer; 0: no sign that joins. */
        private static int rankOf(int sign) {
            switch (sign) {
                case '|': return 1;
                case '&': return 2;
                case '<': return TEST_RANK;
                case '=': return TEST_RANK;
                case '>': return TEST_RANK;
                case '+': return 4;
                case '-': return 4;
                case '*': return 5;
                case '/': return 5;
                default: return 0;
            }
        }

        private void settle(int leastRank) {
            for (int i = 0; i < TAPE_MOST && rankOf(topSign()) >= leastRank; i++) write(-takeSign());
        }

        private int topSign() {
            return signMany > 0 && signMany <= signs.length ? signs[signMany - 1] : 0;
        }

        private int takeSign() {
            int sign = topSign();
            signMany = Math.max(0, signMany - 1);
            return sign;
        }

        private boolean waitsWith(int sign) {
            if (signMany < 0 || signMany >= signs.length) return false;
            signs[signMany] = sign;
            signMany++;
            return true;
        }

        private void write(int step) {
            if (stepMany < 0 || stepMany >= steps.length) return;
            steps[stepMany] = step;
            stepMany++;
        }
    }

    /** One law: its E as steps, the parts of a sign ahead of it, so that no depth of calls is needed. */
    private static final class Text {
        private static final int LAST_NAME = -3;

        private final int key, week, parts;
        private final int[] steps, pile;

        Text(int key, int week, int parts, int[] steps) {
            this.key = key;
            this.week = week;
            this.parts = parts;
            this.steps = steps;
            this.pile = new int[Math.max(1, parts)];
        }

        /** A step is a NUMBER; or -1, -2, -3 for the NAMES in their order; or a sign, negated. */
        int value(int a, int b, int c) {
            int top = 0;
            for (int i = 0; i < steps.length; i++) {
                int step = steps[i];
                if (step >= LAST_NAME) {
                    if (top < pile.length) pile[top] = step >= 0 ? step : step == -1 ? a : step == -2 ? b : c;
                    top++;
                } else if (step == -'!') {
                    if (top >= 1 && top <= pile.length) pile[top - 1] = pile[top - 1] == 0 ? 1 : 0;
                } else if (top >= 2 && top <= pile.length) {
                    top--;
                    pile[top - 1] = joined(-step, pile[top - 1], pile[top]);
                }
            }
            return pile.length > 0 ? pile[0] : 0;
        }

        private static int joined(int sign, int left, int right) {
            switch (sign) {
                case '+': return left + right;
                case '-': return left - right;
                case '*': return left * right;
                case '/': return right == 0 ? 0 : left / right;
                case '<': return left < right ? 1 : 0;
                case '=': return left == right ? 1 : 0;
                case '>': return left > right ? 1 : 0;
                case '&': return left != 0 && right != 0 ? 1 : 0;
                default: return left != 0 || right != 0 ? 1 : 0;
            }
        }
    }

    /** The TEXTS, and which of them counts. */
    private static final class Laws {
        private final Text[] texts = new Text[TEXTS_MOST];
        private int size;

        int add(Text text) {
            int number = size;
            if (number < 0 || number >= texts.length) return FULL;
            texts[number] = text;
            size++;
            return number;
        }

        Text textAt(int number) {
            return number >= 0 && number < size && number < texts.length ? texts[number] : null;
        }

        int counting(int key, int week) {
            int found = -1;
            int latest = 0;
            for (int number = 0; number < size; number++) {
                Text text = textAt(number);
                if (text != null && text.key == key && text.week <= week && text.week >= latest) {
                    found = number;
                    latest = text.week;
                }
            }
            return found;
        }

        int rule(int key, int week, int a, int b, int c) {
            Text text = textAt(counting(key, week));
            int v = text == null ? unwritten(key, a) : text.value(a, b, c);
            switch (key) {
                case BY_IRONS: return held(v, 99);
                case BY_FEAR: return held(v, 100);
                case BY_STOP: return held(v, a);
                default: return v;
            }
        }

        static int unwritten(int key, int weeks) {
            if (key == BY_TICKET) return weeks > 208 ? 1 : 0;
            return key == BY_IRONS ? 4 : 0;
        }

        /** Where e is below 0, nothing lies between 0 and e: then it is 0. */
        private static int held(int v, int greatest) {
            return Math.max(0, Math.min(v, greatest));
        }

        void becomeAs(Laws other) {
            for (int i = 0; i < texts.length && i < other.texts.length; i++) texts[i] = other.texts[i];
            size = other.size;
        }
    }

    /** All that an image keeps, and how a WEEK changes it. */
    private static final class Shore {
        private final Table ships = new Table(2, 8);
        private final Table men = new Table(MAN_WIDTH, MEN_MOST);
        private final Table masters = new Table(4, MASTERS_MOST);
        private final Table marks = new Table(4, 40);
        private final Table letters = new Table(5, 20);
        private final Table looks = new Table(4, 10);
        private final Table sentences = new Table(3, 30);
        private final Table places = new Table(2, PLACES);
        private final Table paths = new Table(PLACES, PLACES);
        private final Table parties = new Table(3, 7);
        private final Table ways = new Table(6, 6);
        private final Laws laws = new Laws();
        private int week, seed, chest;

        void becomeAs(Shore other) {
            ships.becomeAs(other.ships);
            men.becomeAs(other.men);
            masters.becomeAs(other.masters);
            marks.becomeAs(other.marks);
            letters.becomeAs(other.letters);
            looks.becomeAs(other.looks);
            sentences.becomeAs(other.sentences);
            places.becomeAs(other.places);
            paths.becomeAs(other.paths);
            parties.becomeAs(other.parties);
            ways.becomeAs(other.ways);
            laws.becomeAs(other.laws);
            week = other.week;
            seed = other.seed;
            chest = other.chest;
        }

        void embark(int man, int ship) {
            become(man, BOUND, 0);
            men.set(man, PLACE, NONE);
            men.set(man, LANDED, NONE);
            men.set(man, ABOARD_OF, ship);
            men.set(man, TERM, 364);
        }

        void become(int man, int kind, int a) {
            men.set(man, STATE, kind);
            men.set(man, STATE_A, a);
            men.set(man, SINCE, week);
        }

        boolean isDead(int man) {
            return men.get(man, DEAD) == 1;
        }

        boolean hasLanded(int man) {
            return men.get(man, LANDED) != NONE;
        }

        boolean isAboard(int man) {
            return !isDead(man) && !hasLanded(man);
        }

        /** Those who are aboard, DEAD or RUN have no PLACE. */
        boolean isAtPlace(int man) {
            return isPlace(men.get(man, PLACE));
        }

        boolean isServing(int man) {
            return within(men.get(man, STATE), BOUND, TICKET);
        }

        int marksOf(int man) {
            int many = 0;
            for (int mark = 0; mark < marks.rows; mark++) {
                if (marks.get(mark, MARK_MAN) == man && marks.get(mark, MARK_VOID) == 0) many++;
            }
            return many;
        }

        int liveMarks() {
            int many = 0;
            for (int mark = 0; mark < marks.rows; mark++) {
                if (marks.get(mark, MARK_VOID) == 0) many++;
            }
            return many;
        }

        int inBanks() {
            int sum = 0;
            for (int man = 0; man < men.rows; man++) sum += men.get(man, BANK);
            return sum;
        }

        int deadMen() {
            int many = 0;
            for (int man = 0; man < men.rows; man++) {
                if (isDead(man)) many++;
            }
            return many;
        }

        int menAboard() {
            int many = 0;
            for (int man = 0; man < men.rows; man++) {
                if (isAboard(man)) many++;
            }
            return many;
        }

        int livingOfKind(int kind) {
            int many = 0;
            for (int man = 0; man < men.rows; man++) {
                if (!isDead(man) && men.get(man, STATE) == kind) many++;
            }
            return many;
        }

        int assignedTo(int master) {
            int many = 0;
            for (int man = 0; man < men.rows; man++) {
                boolean assigned = men.get(man, STATE) == ASSIGNED && men.get(man, STATE_A) == master;
                if (assigned && !isDead(man)) many++;
            }
            return many;
        }

        int freeHands(int master) {
            return masters.get(master, MASTER_HANDS) - assignedTo(master);
        }

        boolean isWantedBy(int man, int master) {
            if (!isAtPlace(man) || men.get(man, PLACE) != masters.get(master, MASTER_PLACE)) return false;
            return (masters.get(master, MASTER_TRADES) >> men.get(man, TRADE) & 1) == 1;
        }

        /** What ticket or pardon gives for a man who has landed. */
        int mercy(int key, int man) {
            return laws.rule(key, week, week - men.get(man, LANDED), marksOf(man), men.get(man, TERM));
        }

        /** DUE of a man who has landed, if he had so many MARKS. */
        int ticketWeek(int man, int itsMarks) {
            Text text = laws.textAt(laws.counting(BY_TICKET, week));
            int landed = men.get(man, LANDED);
            int term = men.get(man, TERM);
            for (int later = week; later < week + 600; later++) {
                int weeks = later - landed;
                int rule = text == null ? Laws.unwritten(BY_TICKET, weeks) : text.value(weeks, itsMarks, term);
                if (rule != 0) return later;
            }
            return NONE;
        }

        /** The rule comes ahead of the MARK: its m is what he HAS and 1, also where no MARK has room. */
        int ironsForOneMore(int man, int offence) {
            int irons = laws.rule(BY_IRONS, week, offence, marksOf(man) + 1, 0);
            marks.add(man, week, offence, 0);
            return irons;
        }

        void passWeek() {
            landShips();
            for (int place = 0; place < PLACES; place++) eatAt(place);
            for (int man = 0; man < men.rows; man++) {
                if (isAtPlace(man) && isServing(man)) tempt(man);
            }
            for (int man = 0; man < men.rows; man++) {
                if (isAtPlace(man)) earn(man);
            }
            for (int man = 0; man < men.rows; man++) {
                if (isAtPlace(man)) release(man);
            }
            bringLetters();
            week++;
        }

        private void landShips() {
            for (int ship = 0; ship < ships.rows; ship++) {
                if (ships.get(ship, SHIP_WEEK) == week) landFrom(ship);
            }
        }

        private void landFrom(int ship) {
            for (int man = 0; man < men.rows; man++) {
                if (men.get(man, ABOARD_OF) == ship && isAboard(man)) {
                    men.set(man, PLACE, ships.get(ship, SHIP_PLACE));
                    men.set(man, LANDED, week);
                    become(man, BOUND, 0);
                }
            }
        }

        private void eatAt(int place) {
            int eaten = 0;
            for (int man = 0; man < men.rows; man++) {
                if (men.get(man, PLACE) == place) eaten += men.get(man, STATE) == IRONED ? 1 : 2;
            }
            int stored = places.get(place, STORE);
            places.set(place, HUNGRY, stored < eaten ? 1 : 0);
            places.set(place, STORE, Math.max(0, stored - eaten));
        }

        private void tempt(int man) {
            seed = (25173 * seed + 13849) & 65535;
            int fear = laws.rule(BY_FEAR, week, men.get(man, STATE), marksOf(man), men.get(man, PLACE));
            if (seed % 100 >= fear) return;
            int irons = ironsForOneMore(man, seed / 100 % 4);
            if (irons > 0) become(man, IRONED, week + irons);
        }

        private void earn(int man) {
            int kind = men.get(man, STATE);
            if (kind != ASSIGNED && kind != TICKET) return;
            int earned = kind == TICKET ? 5 : masters.get(men.get(man, STATE_A), MASTER_WAGE);
            int stopped = laws.rule(BY_STOP, week, earned, men.get(man, DEED), 0);
            chest += stopped;
            men.set(man, BANK, men.get(man, BANK) + earned - stopped);
        }

        private void release(int man) {
            if (men.get(man, STATE) == IRONED && men.get(man, STATE_A) == week + 1) become(man, BOUND, 0);
            boolean termOver = week + 1 - men.get(man, LANDED) >= men.get(man, TERM);
            if (termOver && isServing(man)) become(man, FREE, 0);
        }

        private void bringLetters() {
            for (int letter = 0; letter < letters.rows; letter++) {
                if (letters.get(letter, LETTER_DUE) == week) {
                    letters.set(letter, LETTER_CAME, 1);
                    letters.set(letter, LETTER_LATE, isDead(letters.get(letter, LETTER_MAN)) ? 1 : 0);
                }
            }
        }

        int menWhoMayBe(int look) {
            int bits = 0;
            for (int man = 0; man < men.rows; man++) {
                if (mayBe(look, man)) bits |= 1 << man;
            }
            return bits;
        }

        private boolean mayBe(int look, int man) {
            int deed = looks.get(look, DEED);
            int trade = looks.get(look, TRADE);
            int age = looks.get(look, AGE);
            int skin = looks.get(look, SKIN);
            if (deed != 8 && deed != men.get(man, DEED)) return false;
            if (trade != 6 && trade != men.get(man, TRADE)) return false;
            if (age != 0 && Math.abs(age - men.get(man, AGE)) > 2) return false;
            return (skin & men.get(man, SKIN)) == skin;
        }

        int partingBit(int among) {
            int best = 0;
            int least = MEN_MOST + 1;
            for (int bit = 0; bit < 8; bit++) {
                int with = withSkin(among, bit);
                int greater = Math.max(with, Integer.bitCount(among) - with);
                if (greater < least) {
                    best = bit;
                    least = greater;
                }
            }
            return best;
        }

        private int withSkin(int among, int bit) {
            int many = 0;
            for (int man = 0; man < men.rows; man++) {
                many += (among >> man) & (men.get(man, SKIN) >> bit) & 1;
            }
            return many;
        }
    }

    /** What is worked out of paths, sentences, parties and ways alone. */
    private static final class Reckoning {
        private static final int FAR = 1000000;

        static int reached(Table paths, int from, int miles) {
            int[] far = new int[PLACES];
            for (int place = 0; place < far.length; place++) far[place] = place == from ? 0 : FAR;
            // No shortest way has more paths than there are other places.
            for (int round = 1; round < PLACES; round++) shorten(paths, far);
            int bits = 0;
            for (int place = 0; place < far.length; place++) {
                if (far[place] <= miles) bits |= 1 << place;
            }
            return bits;
        }

        private static void shorten(Table paths, int[] far) {
            for (int one = 0; one < far.length; one++) {
                for (int other = 0; other < far.length; other++) {
                    int path = paths.get(one, other);
                    if (path > 0 && far[one] + path < far[other]) far[other] = far[one] + path;
                }
            }
        }

        /** Of the one judge, or of all others. */
        static int meanLashes(Table sentences, int judge, int deed, boolean ofJudge) {
            int sum = 0;
            int many = 0;
            for (int one = 0; one < sentences.rows; one++) {
                boolean his = sentences.get(one, JUDGE) == judge;
                if (his == ofJudge && sentences.get(one, JUDGED_DEED) == deed) {
                    sum += sentences.get(one, LASHES);
                    many++;
                }
            }
            return many == 0 ? NONE : sum / many;
        }

        static int harshJudges(Table sentences, int deed) {
            int bits = 0;
            for (int judge = 0; judge < 4; judge++) {
                int his = meanLashes(sentences, judge, deed, true);
                int others = meanLashes(sentences, judge, deed, false);
                if (his != NONE && others != NONE && his > 2 * others) bits |= 1 << judge;
            }
            return bits;
        }

        static int carryingSet(Table parties, int votes) {
            int best = NONE;
            int fewest = 9;
            for (int given = 0; given <= ALL_BITS; given++) {
                int clauses = Integer.bitCount(given);
                if (clauses < fewest && yesVotes(parties, given) >= votes) {
                    best = given;
                    fewest = clauses;
                }
            }
            return best;
        }

        private static int yesVotes(Table parties, int given) {
            int sum = 0;
            for (int party = 0; party < 7; party++) {
                int wanted = parties.get(party, WANTED);
                boolean yes = (wanted & given) == wanted && (parties.get(party, NOT_HAD) & given) == 0;
                if (yes) sum += parties.get(party, VOTES);
            }
            return sum;
        }

        /** Plans in the order of their digits are plans in the order asked for: the first of the least stays. */
        static int bestPlan(Table ways, int years, int food) {
            int plans = 1;
            for (int year = 0; year < years; year++) plans *= 3;
            int best = NONE;
            int least = FAR;
            for (int plan = 0; plan < plans; plan++) {
                int falls = planSum(ways, years, plan, 0);
                if (falls < least && planSum(ways, years, plan, 1) <= food) {
                    best = plan;
                    least = falls;
                }
            }
            return best;
        }

        static int planSum(Table ways, int years, int plan, int what) {
            int sum = 0;
            int rest = plan;
            for (int year = years - 1; year >= 0; year--) {
                sum += ways.get(year, rest % 3 * 2 + what);
                rest /= 3;
            }
            return sum;
        }
    }

    /** THE ASSIGNING: each man as the bits of the MASTERS to whom he could go. */
    private static final class Assigning {
        private final int[] open = new int[MEN_MOST];
        private final int[] hands = new int[MASTERS_MOST];
        private int men, masters;

        void ask(Shore shore) {
            men = Math.min(shore.men.rows, open.length);
            masters = Math.min(shore.masters.rows, hands.length);
            for (int master = 0; master < masters; master++) hands[master] = Math.max(0, shore.freeHands(master));
            for (int man = 0; man < men; man++) open[man] = openFor(shore, man);
        }

        private int openFor(Shore shore, int man) {
            if (shore.men.get(man, STATE) != BOUND) return 0;
            int bits = 0;
            for (int master = 0; master < masters; master++) {
                if (shore.isWantedBy(man, master)) bits |= 1 << master;
            }
            return bits;
        }

        /**
         * How many of the men from one on can go. For each set of masters nobody passes but through
         * their hands or as one who can go elsewhere; the narrowest such gate is just what can pass.
         */
        int greatest(int from) {
            int least = men;
            for (int set = 0; set < 1 << masters; set++) least = Math.min(least, passing(set, from));
            return least;
        }

        private int passing(int set, int from) {
            int many = 0;
            for (int master = 0; master < masters && master < hands.length; master++) {
                if ((set >> master & 1) == 1) many += hands[master];
            }
            for (int man = Math.max(0, from); man < men && man < open.length; man++) {
                if ((open[man] & ~set) != 0) many++;
            }
            return many;
        }

        /** Each man in turn takes the least master with whom as many as before can still go. */
        int masterFor(int asked) {
            int left = greatest(0);
            int taken = NONE;
            for (int man = 0; man <= asked && man < men; man++) {
                taken = take(man, left);
                if (taken != NONE) left--;
            }
            return taken;
        }

        private int take(int man, int left) {
            if (man < 0 || man >= open.length) return NONE;
            for (int master = 0; master < masters && master < hands.length; master++) {
                if ((open[man] >> master & 1) == 1 && hands[master] > 0) {
                    hands[master]--;
                    if (greatest(man + 1) + 1 == left) return master;
                    hands[master]++;
                }
            }
            return NONE;
        }
    }

    /** MUSTERS: rows of equal width, of which each uses as many places as it has. */
    private static final class Musters {
        private static final int MANY = 4, WIDTH = 24, MISSING = -1;

        private final int[] sorts = {MISSING, MISSING, MISSING, MISSING};
        private final Table sizes = new Table(1, MANY);
        private final Table rows = new Table(WIDTH, MANY);
        private final int[] carried = new int[WIDTH];

        boolean isOne(int muster) {
            return muster >= 0 && muster < sorts.length;
        }

        private int sortOf(int muster) {
            return muster >= 0 && muster < sorts.length ? sorts[muster] : MISSING;
        }

        boolean isMissing(int muster) {
            return sortOf(muster) == MISSING;
        }

        boolean alike(int one, int other) {
            return sortOf(one) == sortOf(other);
        }

        boolean hasRow(int muster, int from, int many) {
            int size = sizes.get(muster, 0);
            return from >= 0 && many >= 0 && from <= size && many <= size - from;
        }

        /** 0, if there is such a place. */
        int finding(int muster, int place) {
            if (!isOne(muster)) return BAD;
            if (isMissing(muster)) return NOTHING;
            return hasRow(muster, place, 1) ? 0 : INDEX;
        }

        int shape(int muster, int sort, int n) {
            if (muster >= 0 && muster < sorts.length) sorts[muster] = sort;
            sizes.set(muster, 0, n);
            for (int place = 0; place < WIDTH; place++) rows.set(muster, place, 0);
            return n;
        }

        void write(int muster, int place, int v) {
            rows.set(muster, place, sortOf(muster) == 0 ? (byte) v : (short) v);
        }

        int nearest(int muster, int place) {
            for (int one = muster; one >= 0; one--) {
                if (finding(one, place) == 0 && isMustered(one, place)) return rows.get(one, place);
            }
            return KIND;
        }

        private boolean isMustered(int muster, int place) {
            return rows.get(muster, place) != (sortOf(muster) == 0 ? -128 : -32768);
        }

        /** By way of a row between, since both may be one muster. */
        void move(int from, int place, int to, int at, int many) {
            for (int i = 0; i < many && i < carried.length; i++) carried[i] = rows.get(from, place + i);
            for (int i = 0; i < many && i < carried.length; i++) rows.set(to, at + i, carried[i]);
        }
    }
}
