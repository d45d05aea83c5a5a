import java.lang.reflect.Method;
import java.util.ArrayList;
import java.util.Arrays;
import java.util.Comparator;
import java.util.List;
import java.util.Random;

/** Random runs of calls, each answer held against ShoreModel's; the runs are the same every time. */
public final class ModelTest {
    private static final int[] WILD = {-1, -2, 6, 7, 8, 10, 13, 14, 24, 25, 40, 60, 61, 99, 100, 255, 256, 300, 999, 1000,
        1999, 2000, 65535, 65536, -128, -32768, 40000, Integer.MAX_VALUE, Integer.MIN_VALUE};

    private final Random random;
    private final TicketShore x = new TicketShore();
    private final ShoreModel m = new ShoreModel();
    private final List<String> trace = new ArrayList<>();
    private int calls;
    private boolean differs;

    private ModelTest(long seed) { random = new Random(seed); }

    private static final List<Method> FACE = face();

    private static List<Method> face() {
        List<Method> all = new ArrayList<>();
        for (Method one : TicketShore.class.getDeclaredMethods()) {
            if (java.lang.reflect.Modifier.isPublic(one.getModifiers())) all.add(one);
        }
        all.sort(Comparator.comparing(Method::getName));
        return all;
    }

    private static Method named(String name) {
        for (Method one : FACE) if (one.getName().equals(name)) return one;
        throw new IllegalStateException(name);
    }

    private int upTo(int n) { return random.nextInt(n + 1); }

    private int call(String name, int... args) {
        if (differs || calls >= 512) return 0;
        calls++;
        try {
            Method one = named(name);
            Object[] boxed = Arrays.stream(args).boxed().toArray();
            int got = (Integer) one.invoke(x, boxed);
            Method other = ShoreModel.class.getMethod(name, one.getParameterTypes());
            int want = (Integer) other.invoke(m, boxed);
            trace.add(name + Arrays.toString(args) + " = " + want);
            Checks.eq(name + Arrays.toString(args) + " as call " + calls, got, want);
            if (got != want) {
                differs = true;
                for (String line : trace) System.out.println("  " + line);
            }
            return got;
        } catch (ReflectiveOperationException e) {
            differs = true;
            Checks.eq(name + Arrays.toString(args) + " threw " + e.getCause(), 1, 0);
            return 0;
        }
    }

    /** Arguments mostly within their ranges, so that most calls get past BAD. */
    private int[] argsOf(String name) {
        ShoreModel.World w = m.now;
        int man = upTo(Math.max(0, w.men.size() - 1)), mark = upTo(Math.max(0, w.marks.size() - 1));
        int look = upTo(Math.max(0, w.looks.size() - 1)), master = upTo(Math.max(0, w.masters.size() - 1));
        int ship = Math.max(0, w.ships.size() - 1 - upTo(2)), place = upTo(2), offence = upTo(3);
        int text = upTo(Math.max(0, w.laws.size() - 1)), letter = upTo(Math.max(0, w.posts.size() - 1));
        switch (name) {
            case "ship": return new int[] {place, w.week + 1 + upTo(6)};
            case "man": return new int[] {ship, upTo(3), upTo(2), 20 + upTo(6), random.nextInt(256) & random.nextInt(256)};
            case "term": return new int[] {man, upTo(4) == 0 ? 1 + upTo(998) : 1 + upTo(40)};
            case "told": return new int[] {man, upTo(11)};
            case "as": return new int[] {man, upTo(7)};
            case "dies": case "due": case "back": case "ticket": case "runs": case "caught": case "goes":
                return new int[] {man};
            case "master": return new int[] {place, random.nextInt(64), upTo(4), upTo(99)};
            case "has": return new int[] {master, upTo(4)};
            case "store": return new int[] {place, upTo(99)};
            case "hungry": return new int[] {place};
            case "feed": return new int[] {random.nextInt(), random.nextInt(), random.nextInt()};
            case "trim": return new int[] {upTo(m.tape.size())};
            case "text": return new int[] {upTo(Math.min(1999, w.week + 5))};
            case "of": return new int[] {text, upTo(2)};
            case "why": return new int[] {upTo(4)};
            case "rules": return new int[] {upTo(4), upTo(300), upTo(9), upTo(400)};
            case "mark": return new int[] {man, offence};
            case "voids": return new int[] {mark, upTo(1)};
            case "markTold": return new int[] {mark, upTo(3)};
            case "moves": return new int[] {mark};
            case "assign": return new int[] {man, master};
            case "pardon": return new int[] {man, upTo(1)};
            case "seed": return new int[] {upTo(65535)};
            case "run": return new int[] {upTo(5) == 0 ? 1 + upTo(59) : 1 + upTo(3)};
            case "path": return new int[] {upTo(5), upTo(5), upTo(3) == 0 ? 0 : 1 + upTo(98)};
            case "reach": return new int[] {upTo(5), upTo(30)};
            case "look": return new int[] {upTo(1) * 8 == 0 ? upTo(3) : 8, upTo(1) == 0 ? upTo(2) : 6,
                upTo(1) == 0 ? 0 : 18 + upTo(10), random.nextInt(256) & random.nextInt(256) & random.nextInt(256)};
            case "may": return new int[] {look, upTo(2)};
            case "same": return new int[] {look, upTo(Math.max(0, w.looks.size() - 1))};
            case "sentence": return new int[] {upTo(3), upTo(1), upTo(300)};
            case "mean": return new int[] {upTo(3), upTo(1)};
            case "harsh": return new int[] {upTo(1)};
            case "letter": return new int[] {man, upTo(1), 1 + upTo(8)};
            case "letterTold": return new int[] {letter, upTo(4)};
            case "party": return partyArgs(upTo(2));
            case "carries": return new int[] {1 + upTo(200)};
            case "way": return new int[] {upTo(5), upTo(2), upTo(1), upTo(1) == 0 ? upTo(9) : upTo(99)};
            case "plan": return new int[] {1 + upTo(5), upTo(150), upTo(2)};
            case "muster": return new int[] {upTo(3), upTo(1), upTo(6)};
            case "put": return new int[] {upTo(3), upTo(5), upTo(1) == 0 ? (upTo(1) == 0 ? -128 : -32768) : random.nextInt(999) - 500};
            case "read": return new int[] {upTo(3), upTo(5)};
            case "copy": return new int[] {upTo(3), upTo(4), upTo(3), upTo(4), upTo(3)};
            case "tell": return new int[] {upTo(3)};
            case "check": return new int[] {1 + upTo(29)};
            case "count": return new int[] {upTo(22)};
            default: return new int[0];
        }
    }

    private int[] partyArgs(int what) {
        int v = what == 0 ? upTo(99) : what == 1 ? random.nextInt(256) & random.nextInt(256) : 1 << upTo(7);
        return new int[] {upTo(6), what, v};
    }

    private void oneCall() {
        String name = FACE.get(random.nextInt(FACE.size())).getName();
        if (name.equals("again") && upTo(2) > 0 || name.equals("dies") && upTo(3) > 0) return;
        if (name.equals("muster") && upTo(2) > 0) return;
        int[] args = argsOf(name);
        if (args.length > 0 && upTo(15) == 0) args[random.nextInt(args.length)] = WILD[random.nextInt(WILD.length)];
        call(name, args);
    }

    private static final String[] KEYS = {"ticket", "pardon", "irons", "fear", "stop"};
    private static final String[] NAMES = {"wmt", "wmt", "om", "kmp", "ed"};

    private String expression(int key, int depth) {
        int pick = upTo(depth <= 0 ? 1 : 9);
        String names = NAMES[key];
        if (pick == 0) return String.valueOf(upTo(2) == 0 ? random.nextInt(10000) : random.nextInt(12));
        if (pick == 1 || pick == 2) return String.valueOf(names.charAt(random.nextInt(names.length())));
        if (pick == 3) return "!" + blank() + expression(key, depth - 1);
        if (pick == 4) return "(" + blank() + expression(key, depth - 1) + blank() + ")";
        String signs = "|&<=>+-*/";
        char sign = signs.charAt(random.nextInt(signs.length()));
        return expression(key, depth - 1) + blank() + sign + blank() + expression(key, depth - 1);
    }

    private String blank() { return upTo(5) == 0 ? " " : ""; }

    /** Most are right; some are broken at one place, some hold whatever bytes come. */
    private void oneText() {
        int key = upTo(4);
        StringBuilder s = new StringBuilder(blank() + KEYS[key] + (upTo(9) == 0 ? "" : " ") + expression(key, upTo(4)) + blank());
        if (upTo(3) == 0 && s.length() > 0) {
            String signs = "()!|&<=>+-*/ 019wmtokpedzA{`:";
            char one = upTo(9) == 0 ? (char) random.nextInt(256) : signs.charAt(random.nextInt(signs.length()));
            int at = random.nextInt(s.length());
            if (upTo(1) == 0) s.setCharAt(at, one); else s.insert(at, one);
        }
        if (s.length() > 96) s.setLength(96);
        call("trim", 0);
        for (int i = 0; i < s.length(); i += 12) {
            String t = s.toString();
            call("feed", Checks.four(t, i), Checks.four(t, i + 4), Checks.four(t, i + 8));
        }
        call("trim", s.length());
        call("text", upTo(6) == 0 ? upTo(1999) : upTo(Math.min(1999, m.now.week + 2)));
    }

    private void oneCheck() {
        if (m.image == null) call("keep");
        if (m.image == null) return;
        int n = 1 + upTo(upTo(4) == 0 ? 29 : 3);
        while (m.waiting.size() > 0 && calls < 512 && !differs) call("check", 1);
        List<Integer> right = m.weeksTold(n);
        if (upTo(2) == 0) {
            int at = random.nextInt(right.size());
            right.set(at, right.get(at) + 1);
        }
        for (int v : right) call("tell", v);
        if (upTo(4) == 0) call("tell", 0);
        call("check", n);
    }

    private void setUp() {
        for (int i = upTo(2); i >= 0; i--) call("ship", upTo(2), 1 + upTo(3));
        for (int i = upTo(12); i >= 0; i--) call("man", argsOf("man"));
        for (int i = upTo(5); i > 0; i--) call("term", argsOf("term"));
        for (int i = upTo(5); i > 0; i--) call("master", argsOf("master"));
        if (upTo(2) > 0) {
            String s = "fear " + (10 + upTo(89));
            call("feed", Checks.four(s, 0), Checks.four(s, 4), 0);
            call("trim", s.length());
            call("text", 0);
        }
        call("run", 1 + upTo(4));
    }

    private void tellAll() {
        for (int i = 0; i <= 22; i++) call("count", i);
        for (int man = 0; man < m.now.men.size(); man++) for (int what = 0; what <= 11; what++) call("told", man, what);
    }

    private void go(boolean prepared) {
        if (prepared) setUp();
        while (calls < 470 && !differs) {
            int pick = upTo(24);
            if (pick == 0) oneText();
            else if (pick == 1 && upTo(3) == 0) oneCheck();
            else oneCall();
            if (upTo(60) == 0) tellAll();
        }
        while (calls < 512 && !differs) call("told", argsOf("told"));
    }

    public static void main(String[] args) {
        int runs = args.length > 0 ? Integer.parseInt(args[0]) : 600;
        for (int i = 0; i < runs; i++) {
            ModelTest one = new ModelTest(20261118L * 31 + i);
            one.go(i % 4 != 0);
            if (one.differs) {
                System.out.println("run " + i + " differs");
                break;
            }
        }
        Checks.end("ModelTest");
    }
}
