import java.lang.reflect.Method;
import java.lang.reflect.Modifier;
import java.util.ArrayList;
import java.util.Arrays;
import java.util.HashMap;
import java.util.List;
import java.util.Map;
import java.util.regex.Matcher;
import java.util.regex.Pattern;

/**
 * Runs of calls told as text: "ship(0,1)=0 3*man(0,0,0,20,0)=# 'ticket w>3'@0 run(2)".
 * Behind = stands the answer that is due; 3* is three times, # the number of the time from 0 on (#+2 is 2 more);
 * a text in quotes comes to THE TAPE and is read from the WEEK behind @ on (~1f in it is the byte 31).
 */
final class Script {
    record Call(String name, List<Integer> args, Integer due) {
        String words() { return name + args.toString().replace('[', '(').replace(']', ')'); }
    }

    private static final Pattern ITEM =
        Pattern.compile("\\G\\s*(?:(\\d+)\\*)?(?:'([^']*)'@([\\w#+-]+)|(\\w+)\\(([^)]*)\\))(?:=([\\w#+-]+))?(?=\\s|$)");
    private static final Map<String, Integer> NUMBERS = Map.of("BAD", Checks.BAD, "NO", Checks.NO, "FULL", Checks.FULL,
        "NONE", Checks.NONE, "NOTHING", Checks.NOTHING, "KIND", Checks.KIND, "INDEX", Checks.INDEX, "SIZE", Checks.SIZE,
        "MAX", Integer.MAX_VALUE, "MIN", Integer.MIN_VALUE);
    private static final Map<String, Method> FACE = face();

    private Script() { }

    private static Map<String, Method> face() {
        Map<String, Method> all = new HashMap<>();
        for (Method one : TicketShore.class.getDeclaredMethods()) {
            if (Modifier.isPublic(one.getModifiers())) all.put(one.getName(), one);
        }
        return all;
    }

    static List<Call> of(String text) {
        List<Call> calls = new ArrayList<>();
        Matcher m = ITEM.matcher(text);
        int end = 0;
        while (m.find()) {
            int times = m.group(1) == null ? 1 : Integer.parseInt(m.group(1));
            for (int i = 0; i < times; i++) {
                Integer due = m.group(6) == null ? null : number(m.group(6), i);
                if (m.group(4) == null) addLaw(calls, bytes(m.group(2)), number(m.group(3), i), due);
                else calls.add(new Call(m.group(4), numbers(m.group(5), i), due));
            }
            end = m.end();
        }
        if (!text.substring(end).isBlank()) throw new IllegalArgumentException("no run: " + text.substring(end));
        return calls;
    }

    private static int number(String word, int time) {
        if (word.startsWith("#")) return time + (word.length() == 1 ? 0 : Integer.parseInt(word.substring(1)));
        return NUMBERS.containsKey(word) ? NUMBERS.get(word) : Integer.parseInt(word);
    }

    private static List<Integer> numbers(String words, int time) {
        List<Integer> all = new ArrayList<>();
        if (!words.isBlank()) for (String one : words.split(",")) all.add(number(one.trim(), time));
        return all;
    }

    private static String bytes(String told) {
        StringBuilder s = new StringBuilder();
        for (int i = 0; i < told.length(); i++) {
            boolean byHex = told.charAt(i) == '~';
            s.append(byHex ? (char) Integer.parseInt(told.substring(i + 1, i + 3), 16) : told.charAt(i));
            if (byHex) i += 2;
        }
        return s.toString();
    }

    private static void addLaw(List<Call> calls, String text, int week, Integer due) {
        for (int i = 0; i < text.length(); i += 12) {
            List<Integer> twelve = List.of(Checks.four(text, i), Checks.four(text, i + 4), Checks.four(text, i + 8));
            calls.add(new Call("feed", twelve, null));
        }
        calls.add(new Call("trim", List.of(text.length()), text.length()));
        calls.add(new Call("text", List.of(week), due));
    }

    static int answer(TicketShore x, Call call) {
        Method one = FACE.get(call.name);
        if (one == null || one.getParameterCount() != call.args.size()) throw new IllegalArgumentException(call.words());
        try {
            return (Integer) one.invoke(x, call.args.toArray());
        } catch (ReflectiveOperationException e) {
            throw new IllegalStateException(call.words() + " threw", e);
        }
    }

    /** BAD, NO, FULL, a FINDING, or the place of a FAULT. */
    static boolean refuses(Call call, int answer) {
        boolean fault = call.name.equals("text") && answer <= -100 && answer >= -196;
        int[] all = {Checks.BAD, Checks.NO, Checks.FULL, Checks.NOTHING, Checks.KIND, Checks.INDEX, Checks.SIZE};
        return fault || Arrays.stream(all).anyMatch(one -> one == answer);
    }
}
