import java.util.ArrayList;
import java.util.List;

/**
 * The document told a second time, with the whole Java library and other ways of working things out
 * (descent by recursion, trying every assigning, every walk), so that ModelTest can hold the two against each other.
 */
public final class ShoreModel {
    static final int BAD = -1000000001, NO = -1000000002, FULL = -1000000003, NONE = -1000000005,
            NOTHING = -1000000011, KIND = -1000000012, INDEX = -1000000013, SIZE = -1000000014;

    record Ship(int place, int week) { }
    record Master(int place, int trades, int hands, int wage) { }
    record Look(int deed, int trade, int age, int skin) { }
    record Sentence(int judge, int deed, int lashes) { }
    record Law(int key, int week, Node e, int parts) { }

    static final class Man implements Cloneable {
        int ship, deed, trade, age, skin, term = 364, kind = 1, a, since, bank;
        Integer landed, place;
        boolean dead;
        Man copyOf() { try { return (Man) clone(); } catch (CloneNotSupportedException e) { throw new Error(e); } }
        boolean aboard() { return !dead && landed == null; }
        boolean at(int p) { return !dead && place != null && place == p; }
        boolean atSome() { return !dead && place != null; }
        boolean low() { return kind >= 1 && kind <= 4; }
        void be(int k, int v, int week) { kind = k; a = v; since = week; }
    }

    static final class Mark { int man, week, offence; boolean isVoid; }
    static final class Post { int man, way, due; boolean came, late; }

    static final class World {
        List<Ship> ships = new ArrayList<>();
        List<Man> men = new ArrayList<>();
        List<Master> masters = new ArrayList<>();
        List<Mark> marks = new ArrayList<>();
        List<Law> laws = new ArrayList<>();
        List<Look> looks = new ArrayList<>();
        List<Sentence> sentences = new ArrayList<>();
        List<Post> posts = new ArrayList<>();
        int[] store = new int[6], hungry = new int[6];
        int[][] path = new int[6][6], party = new int[7][3];
        int[][][] way = new int[6][3][2];
        int week, seed, chest;

        World copyOf() {
            World w = new World();
            w.ships.addAll(ships);
            for (Man m : men) w.men.add(m.copyOf());
            w.masters.addAll(masters);
            for (Mark m : marks) {
                Mark n = new Mark();
                n.man = m.man; n.week = m.week; n.offence = m.offence; n.isVoid = m.isVoid;
                w.marks.add(n);
            }
            w.laws.addAll(laws);
            w.looks.addAll(looks);
            w.sentences.addAll(sentences);
            for (Post p : posts) {
                Post q = new Post();
                q.man = p.man; q.way = p.way; q.due = p.due; q.came = p.came; q.late = p.late;
                w.posts.add(q);
            }
            w.store = store.clone();
            w.hungry = hungry.clone();
            for (int i = 0; i < 6; i++) w.path[i] = path[i].clone();
            for (int i = 0; i < 7; i++) w.party[i] = party[i].clone();
            for (int i = 0; i < 6; i++) for (int j = 0; j < 3; j++) w.way[i][j] = way[i][j].clone();
            w.week = week; w.seed = seed; w.chest = chest;
            return w;
        }

        int marksOf(int man) { return (int) marks.stream().filter(m -> m.man == man && !m.isVoid).count(); }

        Law counts(int key) {
            Law best = null;
            for (Law l : laws) {
                if (l.key == key && l.week <= week && (best == null || l.week >= best.week)) best = l;
            }
            return best;
        }

        int rule(int key, int a, int b, int c) {
            Law l = counts(key);
            int v;
            if (l != null) v = l.e.at(a, b, c);
            else v = key == 0 ? (a > 208 ? 1 : 0) : key == 2 ? 4 : 0;
            int top = key == 2 ? 99 : key == 3 ? 100 : a;
            if (key < 2) return v;
            if (v > top) v = top;
            return v < 0 ? 0 : v;
        }

        void mark(int man, int offence) {
            if (marks.size() >= 40) return;
            Mark m = new Mark();
            m.man = man; m.week = week; m.offence = offence;
            marks.add(m);
        }

        void pass() {
            for (int s = 0; s < ships.size(); s++) {
                if (ships.get(s).week != week) continue;
                for (Man m : men) {
                    if (m.ship == s && m.aboard()) {
                        m.place = ships.get(s).place;
                        m.landed = week;
                        m.be(1, 0, week);
                    }
                }
            }
            for (int p = 0; p < 6; p++) {
                int need = 0;
                for (Man m : men) if (m.at(p)) need += m.kind == 3 ? 1 : 2;
                hungry[p] = need > store[p] ? 1 : 0;
                store[p] = need > store[p] ? 0 : store[p] - need;
            }
            for (int i = 0; i < men.size(); i++) {
                Man m = men.get(i);
                if (!m.atSome() || !m.low()) continue;
                seed = (int) ((25173L * seed + 13849L) % 65536L);
                if (seed % 100 < rule(3, m.kind, marksOf(i), m.place)) {
                    int offence = (seed / 100) % 4;
                    int irons = rule(2, offence, marksOf(i) + 1, 77);
                    mark(i, offence);
                    if (irons > 0) m.be(3, week + irons, week);
                }
            }
            for (Man m : men) {
                if (!m.atSome() || m.kind != 2 && m.kind != 4) continue;
                int e = m.kind == 4 ? 5 : masters.get(m.a).wage;
                int s = rule(4, e, m.deed, 77);
                chest += s;
                m.bank += e - s;
            }
            for (Man m : men) if (m.atSome() && m.kind == 3 && m.a == week + 1) m.be(1, 0, week);
            for (Man m : men) if (m.atSome() && m.low() && m.landed + m.term <= week + 1) m.be(6, 0, week);
            for (Post p : posts) {
                if (p.due == week) {
                    p.came = true;
                    p.late = men.get(p.man).dead;
                }
            }
            week++;
        }
    }

    interface Node { int at(int a, int b, int c); }

    static final class Fault extends RuntimeException {
        private static final long serialVersionUID = 1L;
        final int place;
        Fault(int place) { super(null, null, false, false); this.place = place; }
    }

    /** Descent over words that were cut first. */
    static final class Descent {
        final List<String> words = new ArrayList<>();
        final List<Integer> from = new ArrayList<>();
        final List<Boolean> glued = new ArrayList<>();
        int at, parts, key;
        final int end;

        Descent(List<Integer> tape) {
            end = tape.size();
            StringBuilder all = new StringBuilder();
            for (int b : tape) all.append((char) b);
            int i = 0;
            boolean behindWord = false;
            while (i < end) {
                char c = all.charAt(i);
                if (c == ' ') { i++; behindWord = false; continue; }
                int j = i + 1;
                if (letter(c)) while (j < end && letter(all.charAt(j))) j++;
                else if (digit(c)) while (j < end && digit(all.charAt(j))) j++;
                boolean word = letter(c) || digit(c);
                words.add(all.substring(i, j));
                from.add(i);
                glued.add(word && behindWord);
                behindWord = word;
                i = j;
            }
        }

        static boolean letter(char c) { return c >= 'a' && c <= 'z'; }
        static boolean digit(char c) { return c >= '0' && c <= '9'; }

        int place() { return at < words.size() ? from.get(at) : end; }
        String peek() { return at < words.size() ? words.get(at) : ""; }
        Fault fault() { return new Fault(place()); }

        String take() {
            if (at >= words.size() || glued.get(at)) throw fault();
            return words.get(at++);
        }

        boolean isSign(String signs) { return peek().length() == 1 && signs.contains(peek()); }

        Law law(int week) {
            key = List.of("ticket", "pardon", "irons", "fear", "stop").indexOf(peek());
            if (key < 0) throw fault();
            take();
            Node e = or(0, 0);
            if (at < words.size()) throw fault();
            return new Law(key, week, e, parts);
        }

        Node or(int brackets, int nots) {
            Node n = and(brackets, nots);
            while (isSign("|")) {
                take();
                Node l = n, r = and(brackets, nots);
                n = (a, b, c) -> (l.at(a, b, c) != 0) | (r.at(a, b, c) != 0) ? 1 : 0;
            }
            return n;
        }

        Node and(int brackets, int nots) {
            Node n = test(brackets, nots);
            while (isSign("&")) {
                take();
                Node l = n, r = test(brackets, nots);
                n = (a, b, c) -> (l.at(a, b, c) != 0) & (r.at(a, b, c) != 0) ? 1 : 0;
            }
            return n;
        }

        Node test(int brackets, int nots) {
            Node l = sum(brackets, nots);
            if (!isSign("<=>")) return l;
            char sign = take().charAt(0);
            Node r = sum(brackets, nots);
            return (a, b, c) -> {
                int cmp = Integer.compare(l.at(a, b, c), r.at(a, b, c));
                return (sign == '<' ? cmp < 0 : sign == '=' ? cmp == 0 : cmp > 0) ? 1 : 0;
            };
        }

        Node sum(int brackets, int nots) {
            Node n = product(brackets, nots);
            while (isSign("+-")) {
                int by = take().equals("+") ? 1 : -1;
                Node l = n, r = product(brackets, nots);
                n = (a, b, c) -> l.at(a, b, c) + by * r.at(a, b, c);
            }
            return n;
        }

        Node product(int brackets, int nots) {
            Node n = part(brackets, nots);
            while (isSign("*/")) {
                boolean times = take().equals("*");
                Node l = n, r = part(brackets, nots);
                n = (a, b, c) -> {
                    int x = l.at(a, b, c), y = r.at(a, b, c);
                    return times ? x * y : y == 0 ? 0 : x / y;
                };
            }
            return n;
        }

        Node part(int brackets, int nots) {
            String w = peek();
            if (w.isEmpty()) throw fault();
            if (digit(w.charAt(0))) {
                if (w.length() > 4) throw fault();
                take();
                parts++;
                int v = Integer.parseInt(w);
                return (a, b, c) -> v;
            }
            if (letter(w.charAt(0))) {
                String names = List.of("wmt", "wmt", "om", "kmp", "ed").get(key);
                if (w.length() != 1 || !names.contains(w)) throw fault();
                take();
                parts++;
                int i = names.indexOf(w);
                return (a, b, c) -> i == 0 ? a : i == 1 ? b : c;
            }
            if (w.equals("!") && nots < 8) {
                take();
                Node n = part(brackets, nots + 1);
                return (a, b, c) -> n.at(a, b, c) == 0 ? 1 : 0;
            }
            if (w.equals("(") && brackets < 8) {
                take();
                Node n = or(brackets + 1, nots);
                if (!isSign(")")) throw fault();
                take();
                return n;
            }
            throw fault();
        }
    }

    World now = new World(), image;
    List<Integer> tape = new ArrayList<>(), waiting = new ArrayList<>();
    int[][] musters = new int[4][];
    int[] sorts = new int[4];

    static boolean in(int v, int lo, int hi) { return lo <= v && v <= hi; }
    boolean noMan(int man) { return !in(man, 0, now.men.size() - 1); }
    Man who(int man) { return now.men.get(man); }
    static <T> int plus(List<T> list, int most, T one) {
        if (list.size() >= most) return FULL;
        list.add(one);
        return list.size() - 1;
    }

    public int ship(int place, int week) {
        if (!in(place, 0, 5) || week <= now.week || week > 1999) return BAD;
        return plus(now.ships, 8, new Ship(place, week));
    }

    public int man(int ship, int deed, int trade, int age, int skin) {
        if (!in(ship, 0, now.ships.size() - 1) || now.ships.get(ship).week < now.week) return BAD;
        if (!in(deed, 0, 7) || !in(trade, 0, 5) || !in(age, 10, 70) || !in(skin, 0, 255)) return BAD;
        Man m = new Man();
        m.ship = ship; m.deed = deed; m.trade = trade; m.age = age; m.skin = skin; m.since = now.week;
        return plus(now.men, 14, m);
    }

    public int term(int man, int v) {
        if (noMan(man) || !in(v, 1, 999)) return BAD;
        if (who(man).landed != null) return NO;
        int was = who(man).term;
        who(man).term = v;
        return was;
    }

    public int told(int man, int what) {
        if (noMan(man) || !in(what, 0, 11)) return BAD;
        Man m = who(man);
        int place = m.dead || m.place == null ? NONE : m.place;
        int landed = m.landed == null ? NONE : m.landed;
        return new int[] {m.deed, m.trade, m.age, m.skin, place, m.kind, m.a, m.since, now.marksOf(man), m.bank,
            landed, m.dead ? 1 : 0}[what];
    }

    public int as(int man, int kind) {
        if (noMan(man) || !in(kind, 0, 7)) return BAD;
        int k = who(man).kind;
        boolean is = kind == 0 || k == kind || kind == 1 && List.of(2, 3, 4, 7).contains(k);
        return is ? who(man).a : KIND;
    }

    public int dies(int man) {
        if (noMan(man)) return BAD;
        if (who(man).dead) return NO;
        who(man).dead = true;
        return 1;
    }

    public int master(int place, int trades, int hands, int wage) {
        if (!in(place, 0, 5) || !in(trades, 0, 63) || !in(hands, 0, 9) || !in(wage, 0, 99)) return BAD;
        return plus(now.masters, 6, new Master(place, trades, hands, wage));
    }

    int assigned(int master) {
        return (int) now.men.stream().filter(m -> !m.dead && m.kind == 2 && m.a == master).count();
    }

    public int has(int master, int what) {
        if (!in(master, 0, now.masters.size() - 1) || !in(what, 0, 4)) return BAD;
        Master m = now.masters.get(master);
        return new int[] {m.place, m.trades, m.hands, m.wage, assigned(master)}[what];
    }

    public int store(int place, int v) {
        if (!in(place, 0, 5) || !in(v, 0, 9999)) return BAD;
        int was = now.store[place];
        now.store[place] = v;
        return was;
    }

    public int hungry(int place) { return in(place, 0, 5) ? now.hungry[place] : BAD; }

    public int feed(int a, int b, int c) {
        if (tape.size() > 84) return FULL;
        for (int v : new int[] {a, b, c}) {
            tape.add(v >>> 24);
            tape.add(v >>> 16 & 255);
            tape.add(v >>> 8 & 255);
            tape.add(v & 255);
        }
        return tape.size();
    }

    public int trim(int n) {
        if (!in(n, 0, tape.size())) return BAD;
        tape = new ArrayList<>(tape.subList(0, n));
        return n;
    }

    public int text(int week) {
        List<Integer> used = tape;
        tape = new ArrayList<>();
        if (!in(week, 0, 1999)) return BAD;
        try {
            return plus(now.laws, 14, new Descent(used).law(week));
        } catch (Fault f) {
            return -100 - f.place;
        }
    }

    public int of(int text, int what) {
        if (!in(text, 0, now.laws.size() - 1) || !in(what, 0, 2)) return BAD;
        Law l = now.laws.get(text);
        return what == 0 ? l.key : what == 1 ? l.week : l.parts;
    }

    public int why(int key) {
        if (!in(key, 0, 4)) return BAD;
        Law l = now.counts(key);
        return l == null ? NONE : now.laws.lastIndexOf(l);
    }

    public int rules(int key, int a, int b, int c) { return in(key, 0, 4) ? now.rule(key, a, b, c) : BAD; }

    public int mark(int man, int offence) {
        if (noMan(man) || !in(offence, 0, 3)) return BAD;
        if (who(man).dead || who(man).aboard()) return NO;
        if (now.marks.size() >= 40) return FULL;
        now.mark(man, offence);
        return now.marks.size() - 1;
    }

    public int voids(int mark, int on) {
        if (!in(mark, 0, now.marks.size() - 1) || !in(on, 0, 1)) return BAD;
        int was = now.marks.get(mark).isVoid ? 1 : 0;
        now.marks.get(mark).isVoid = on == 1;
        return was;
    }

    public int markTold(int mark, int what) {
        if (!in(mark, 0, now.marks.size() - 1) || !in(what, 0, 3)) return BAD;
        Mark m = now.marks.get(mark);
        return new int[] {m.man, m.week, m.offence, m.isVoid ? 1 : 0}[what];
    }

    public int due(int man) {
        if (noMan(man)) return BAD;
        Man m = who(man);
        if (m.dead || m.aboard()) return NO;
        for (int i = 0; i < 600; i++) {
            if (now.rule(0, now.week + i - m.landed, now.marksOf(man), m.term) != 0) return now.week + i;
        }
        return NONE;
    }

    public int moves(int mark) {
        if (!in(mark, 0, now.marks.size() - 1)) return BAD;
        Mark m = now.marks.get(mark);
        if (m.isVoid || who(m.man).dead) return NO;
        int as = due(m.man);
        m.isVoid = true;
        int without = due(m.man);
        m.isVoid = false;
        return as == NONE || without == NONE ? NONE : as - without;
    }

    boolean wants(int master, Man m) {
        Master w = now.masters.get(master);
        return m.at(w.place) && (w.trades & 1 << m.trade) != 0;
    }

    public int assign(int man, int master) {
        if (noMan(man) || !in(master, 0, now.masters.size() - 1)) return BAD;
        Man m = who(man);
        if (m.kind != 1) return KIND;
        if (!wants(master, m) || assigned(master) >= now.masters.get(master).hands) return NO;
        m.be(2, master, now.week);
        return 1;
    }

    public int back(int man) {
        if (noMan(man)) return BAD;
        Man m = who(man);
        if (m.kind != 2) return KIND;
        if (m.dead) return NO;
        int was = m.a;
        m.be(1, 0, now.week);
        return was;
    }

    boolean given(int key, int man) {
        Man m = who(man);
        return !m.dead && !m.aboard() && now.rule(key, now.week - m.landed, now.marksOf(man), m.term) != 0;
    }

    public int ticket(int man) {
        if (noMan(man)) return BAD;
        Man m = who(man);
        if (m.kind != 1 && m.kind != 2) return KIND;
        if (!given(0, man)) return NO;
        m.be(4, m.place, now.week);
        return 1;
    }

    public int pardon(int man, int condition) {
        if (noMan(man) || !in(condition, 0, 1)) return BAD;
        Man m = who(man);
        if (!m.low()) return KIND;
        if (!given(1, man)) return NO;
        m.be(5, condition, now.week);
        return 1;
    }

    public int runs(int man) {
        if (noMan(man)) return BAD;
        Man m = who(man);
        if (!m.low()) return KIND;
        if (m.dead || m.aboard()) return NO;
        m.be(7, m.place, now.week);
        m.place = null;
        return 1;
    }

    public int caught(int man) {
        if (noMan(man)) return BAD;
        Man m = who(man);
        if (m.kind != 7) return KIND;
        if (m.dead) return NO;
        m.place = m.a;
        int irons = Math.max(1, now.rule(2, 3, now.marksOf(man) + 1, 0));
        now.mark(man, 3);
        m.be(3, now.week + irons, now.week);
        return m.a;
    }

    public int seed(int v) {
        if (!in(v, 0, 65535)) return BAD;
        int was = now.seed;
        now.seed = v;
        return was;
    }

    public int run(int n) {
        if (!in(n, 1, 60)) return BAD;
        if (now.week + n > 1999) return FULL;
        for (int i = 0; i < n; i++) now.pass();
        return now.week;
    }

    public int path(int one, int other, int v) {
        if (!in(one, 0, 5) || !in(other, 0, 5) || one == other || !in(v, 0, 99)) return BAD;
        int was = now.path[one][other];
        now.path[one][other] = v;
        now.path[other][one] = v;
        return was;
    }

    public int reach(int place, int f) {
        if (!in(place, 0, 5) || !in(f, 0, 99)) return BAD;
        return walk(place, 1 << place, 7 * f);
    }

    int walk(int place, int been, int miles) {
        int all = 1 << place;
        for (int next = 0; next < 6; next++) {
            int v = now.path[place][next];
            if (v > 0 && v <= miles && (been & 1 << next) == 0) all |= walk(next, been | 1 << next, miles - v);
        }
        return all;
    }

    public int look(int deed, int trade, int age, int skin) {
        if (!in(deed, 0, 8) || !in(trade, 0, 6) || !in(age, 0, 70) || !in(skin, 0, 255)) return BAD;
        return plus(now.looks, 10, new Look(deed, trade, age, skin));
    }

    List<Integer> mayBe(int look) {
        Look l = now.looks.get(look);
        List<Integer> all = new ArrayList<>();
        for (int i = 0; i < now.men.size(); i++) {
            Man m = who(i);
            boolean deed = l.deed == 8 || l.deed == m.deed, trade = l.trade == 6 || l.trade == m.trade;
            boolean age = l.age == 0 || in(m.age, l.age - 2, l.age + 2);
            if (deed && trade && age && (l.skin & ~m.skin) == 0) all.add(i);
        }
        return all;
    }

    public int may(int look, int what) {
        if (!in(look, 0, now.looks.size() - 1) || !in(what, 0, 2)) return BAD;
        List<Integer> men = mayBe(look);
        if (what == 0) return men.stream().mapToInt(i -> 1 << i).sum();
        if (what == 1) return men.size() == 1 ? men.get(0) : NONE;
        if (men.size() < 2) return NONE;
        int best = -1, least = 99;
        for (int bit = 7; bit >= 0; bit--) {
            int b = bit;
            int with = (int) men.stream().filter(i -> (who(i).skin >> b & 1) == 1).count();
            int part = Math.max(with, men.size() - with);
            if (part <= least) { least = part; best = bit; }
        }
        return best;
    }

    public int same(int one, int other) {
        int top = now.looks.size() - 1;
        if (!in(one, 0, top) || !in(other, 0, top) || one == other) return BAD;
        List<Integer> a = mayBe(one), b = mayBe(other);
        if (a.size() == 1 && b.size() == 1 && a.get(0).intValue() == b.get(0)) return 2;
        a.retainAll(b);
        return a.isEmpty() ? 0 : 1;
    }

    /** Every way to assign is tried; the lesser master first, none last, so that the first of the most is the one. */
    int[] bestWay;
    int bestMany;

    void tryFrom(int man, int[] to, int[] free, int many) {
        int room = 0;
        for (int f : free) room += f;
        if (bestWay != null && many + Math.min(room, now.men.size() - man) <= bestMany) return;
        if (man == now.men.size()) {
            bestMany = many;
            bestWay = to.clone();
            return;
        }
        Man m = who(man);
        for (int master = 0; master < now.masters.size() && m.kind == 1; master++) {
            if (wants(master, m) && free[master] > 0) {
                free[master]--;
                to[man] = master;
                tryFrom(man + 1, to, free, many + 1);
                free[master]++;
            }
        }
        to[man] = NONE;
        tryFrom(man + 1, to, free, many);
    }

    void assignAll() {
        bestWay = null;
        bestMany = -1;
        int[] free = new int[now.masters.size()];
        for (int i = 0; i < free.length; i++) free[i] = now.masters.get(i).hands - assigned(i);
        tryFrom(0, new int[now.men.size()], free, 0);
    }

    public int goes(int man) {
        if (noMan(man)) return BAD;
        assignAll();
        return bestWay[man];
    }

    public int most() {
        assignAll();
        return bestMany;
    }

    public int sentence(int judge, int deed, int lashes) {
        if (!in(judge, 0, 3) || !in(deed, 0, 7) || !in(lashes, 0, 300)) return BAD;
        return plus(now.sentences, 30, new Sentence(judge, deed, lashes));
    }

    int cutMean(int judges, int deed) {
        return (int) Math.floor(now.sentences.stream().filter(s -> (judges >> s.judge & 1) == 1 && s.deed == deed)
            .mapToInt(s -> s.lashes).average().orElse(NONE));
    }

    public int mean(int judge, int deed) {
        return !in(judge, 0, 3) || !in(deed, 0, 7) ? BAD : cutMean(1 << judge, deed);
    }

    public int harsh(int deed) {
        if (!in(deed, 0, 7)) return BAD;
        int bits = 0;
        for (int j = 0; j < 4; j++) {
            int own = cutMean(1 << j, deed), others = cutMean(15 - (1 << j), deed);
            if (own != NONE && others != NONE && own > others + others) bits += 1 << j;
        }
        return bits;
    }

    public int letter(int man, int way, int n) {
        if (noMan(man) || !in(way, 0, 1) || !in(n, 1, 99)) return BAD;
        if (way == 1 && who(man).dead) return NO;
        Post p = new Post();
        p.man = man; p.way = way; p.due = now.week + n;
        return plus(now.posts, 20, p);
    }

    public int letterTold(int letter, int what) {
        if (!in(letter, 0, now.posts.size() - 1) || !in(what, 0, 4)) return BAD;
        Post p = now.posts.get(letter);
        return new int[] {p.man, p.way, p.due, p.came ? 1 : 0, p.late ? 1 : 0}[what];
    }

    public int party(int party, int what, int v) {
        if (!in(party, 0, 6) || !in(what, 0, 2) || !in(v, 0, what == 0 ? 99 : 255)) return BAD;
        int was = now.party[party][what];
        now.party[party][what] = v;
        return was;
    }

    public int carries(int n) {
        if (!in(n, 1, 999)) return BAD;
        for (int size = 0; size <= 8; size++) {
            for (int set = 0; set < 256; set++) {
                int yes = 0;
                for (int[] p : now.party) if ((p[1] & ~set) == 0 && (p[2] & set) == 0) yes += p[0];
                if (Integer.bitCount(set) == size && yes >= n) return set;
            }
        }
        return NONE;
    }

    public int way(int year, int way, int what, int v) {
        if (!in(year, 0, 5) || !in(way, 0, 2) || !in(what, 0, 1) || !in(v, 0, 99)) return BAD;
        int was = now.way[year][way][what];
        now.way[year][way][what] = v;
        return was;
    }

    /** FALLS, FOOD and digits of the best plan of the years from one on, or null. */
    int[] bestFrom(int year, int n, int food) {
        if (year == n) return new int[3];
        int[] best = null;
        int unit = (int) Math.round(Math.pow(3, n - 1 - year));
        for (int w = 0; w < 3; w++) {
            int[] one = now.way[year][w];
            if (one[1] > food) continue;
            int[] rest = bestFrom(year + 1, n, food - one[1]);
            if (rest != null && (best == null || rest[0] + one[0] < best[0])) {
                best = new int[] {rest[0] + one[0], rest[1] + one[1], rest[2] + w * unit};
            }
        }
        return best;
    }

    public int plan(int n, int f, int what) {
        if (!in(n, 1, 6) || !in(f, 0, 999) || !in(what, 0, 2)) return BAD;
        int[] best = bestFrom(0, n, f);
        return best == null ? NONE : best[what];
    }

    public int muster(int muster, int sort, int n) {
        if (!in(muster, 0, 3) || !in(sort, -1, 1) || sort >= 0 && n > 24) return BAD;
        if (sort >= 0 && n < 0) return SIZE;
        musters[muster] = sort < 0 ? null : new int[n];
        sorts[muster] = sort;
        return sort < 0 ? 0 : n;
    }

    public int put(int muster, int place, int v) {
        if (!in(muster, 0, 3)) return BAD;
        if (musters[muster] == null) return NOTHING;
        if (!in(place, 0, musters[muster].length - 1)) return INDEX;
        int width = sorts[muster] == 0 ? 24 : 16;
        musters[muster][place] = v << width >> width;
        return 1;
    }

    public int read(int muster, int place) {
        if (!in(muster, 0, 3)) return BAD;
        if (musters[muster] == null) return NOTHING;
        if (!in(place, 0, musters[muster].length - 1)) return INDEX;
        for (int m = muster; m >= 0; m--) {
            if (musters[m] == null || place >= musters[m].length) continue;
            if (musters[m][place] != (sorts[m] == 0 ? Byte.MIN_VALUE : Short.MIN_VALUE)) return musters[m][place];
        }
        return KIND;
    }

    public int copy(int from, int place, int to, int at, int many) {
        if (!in(from, 0, 3) || !in(to, 0, 3)) return BAD;
        if (musters[from] == null || musters[to] == null) return NOTHING;
        if (sorts[from] != sorts[to]) return KIND;
        try {
            System.arraycopy(musters[from], place, musters[to], at, many);
            return many;
        } catch (IndexOutOfBoundsException e) {
            return INDEX;
        }
    }

    public int tell(int v) {
        if (waiting.size() >= 60) return FULL;
        waiting.add(v);
        return waiting.size();
    }

    public int check(int n) {
        List<Integer> were = waiting;
        waiting = new ArrayList<>();
        if (!in(n, 1, 30)) return BAD;
        if (image == null) return NO;
        List<Integer> right = weeksTold(n);
        if (right.equals(were)) return 0;
        int ahead = 0;
        while (ahead < right.size() && ahead < were.size() && right.get(ahead).intValue() == were.get(ahead)) ahead++;
        return ahead + 1;
    }

    List<Integer> weeksTold(int n) {
        World w = image.copyOf();
        List<Integer> all = new ArrayList<>();
        for (int i = 0; i < n; i++) {
            w.pass();
            all.add((int) w.marks.stream().filter(m -> !m.isVoid).count());
            all.add(w.men.stream().mapToInt(m -> m.bank).sum());
        }
        return all;
    }

    public int keep() {
        image = now.copyOf();
        return now.week;
    }

    public int again() {
        if (image == null) return NO;
        now = image.copyOf();
        return now.week;
    }

    public int count(int what) {
        if (!in(what, 0, 22)) return BAD;
        if (in(what, 4, 11)) return (int) now.men.stream().filter(m -> !m.dead && m.kind == what - 4).count();
        return switch (what) {
            case 0 -> now.ships.size();
            case 1 -> now.men.size();
            case 2 -> (int) now.men.stream().filter(m -> m.dead).count();
            case 3 -> (int) now.men.stream().filter(Man::aboard).count();
            case 12 -> now.masters.size();
            case 13 -> now.marks.size();
            case 14 -> now.laws.size();
            case 15 -> now.looks.size();
            case 16 -> now.sentences.size();
            case 17 -> now.posts.size();
            case 18 -> now.chest;
            case 19 -> waiting.size();
            case 20 -> tape.size();
            case 21 -> now.week;
            default -> now.seed;
        };
    }
}
