import java.io.IOException;
import java.nio.file.Files;
import java.nio.file.Path;
import java.util.ArrayList;
import java.util.LinkedHashMap;
import java.util.List;
import java.util.Map;
import java.util.regex.Matcher;
import java.util.regex.Pattern;

/**
 * The sentences of the document, each with the runs of calls that are its test. A sentence that is told here has to
 * stand in the document, and at the end every word of the Terms and of the promises has to stand in one told here.
 */
final class Ledger {
    private static final Path DOC = Path.of("..", "shared", "DOC.md");
    private static final int CALLS_MOST = 512;

    private final Map<String, String> parts = new LinkedHashMap<>();
    private final Map<String, boolean[]> seen = new LinkedHashMap<>();
    private String part = "";
    private String sentence = "";
    private int tests, ofThis = 1;

    Ledger() throws IOException {
        String doc = Files.readString(DOC).replaceAll("```(text)?\n", "").replaceAll("\\s+", " ");
        int terms = doc.indexOf("## Terms ") + 9;
        Matcher use = Pattern.compile("An object is used for .*? is free\\.").matcher(doc);
        if (use.find()) parts.put("What it is", use.group());
        String[] cut = doc.substring(terms, doc.indexOf("Ahead of the calls `ship`")).split("======== \\d ");
        for (int i = 0; i < cut.length; i++) parts.put(i == 0 ? "Terms" : "Terms " + i, cut[i]);
        Matcher m = Pattern.compile("## Promise (\\d+): \\w[\\w ]* `[^`]*`: (.*?) (?=## )").matcher(doc);
        while (m.find()) parts.put("Promise " + m.group(1), m.group(2));
        Checks.eq("parts of the document", parts.size(), 1 + 6 + 55);
        parts.forEach((name, text) -> seen.put(name, new boolean[text.length()]));
    }

    void part(String name) {
        leave();
        part = name;
        Checks.yes("there is such a part: " + name, parts.containsKey(name));
    }

    /** The next tests are of this sentence. */
    void told(String words) {
        leave();
        sentence = words;
        ofThis = 0;
        String text = parts.getOrDefault(part, "");
        boolean[] marked = seen.getOrDefault(part, new boolean[0]);
        int at = text.indexOf(words);
        while (at >= 0 && marked[at] && text.indexOf(words, at + 1) >= 0) at = text.indexOf(words, at + 1);
        Checks.yes(part + " says: " + words, at >= 0);
        for (int i = at; at >= 0 && i < at + words.length(); i++) marked[i] = true;
    }

    private void leave() {
        Checks.yes(part + ": \"" + sentence + "\" has a test of its own", ofThis > 0);
    }

    void run(String why, String calls) {
        run(why, Script.of(calls));
    }

    private void run(String why, List<Script.Call> calls) {
        tests++;
        ofThis++;
        String name = part + " \"" + sentence + "\", " + why + ": ";
        Checks.yes(name + "too many calls", calls.size() <= CALLS_MOST);
        TicketShore x = new TicketShore();
        int due = 0;
        for (int i = 0; i < calls.size(); i++) {
            Script.Call call = calls.get(i);
            int got = Script.answer(x, call);
            if (call.due() == null) continue;
            due++;
            Checks.eq(name + call.words() + " as call " + (i + 1), got, call.due());
            if (Script.refuses(call, call.due())) Twins.alike(name, calls.subList(0, i), call);
        }
        Checks.yes(name + "it asks for something", due > 0);
    }

    /** The ? of a call goes from the least to the greatest number; beyond them, near and far, it is refused. */
    void range(String why, String ahead, String call, int least, int greatest) {
        range(why, ahead, call, least, greatest, "BAD");
    }

    void range(String why, String ahead, String call, int least, int greatest, String refusal) {
        String bare = call.replaceAll("=\\S+$", "");
        for (int v : new int[] {least, greatest}) within(why, ahead, call.replace("?", "" + v));
        for (int v : new int[] {least - 1, greatest + 1, Integer.MIN_VALUE, Integer.MAX_VALUE}) {
            run(why + " " + v, ahead + " " + bare.replace("?", "" + v) + "=" + refusal);
        }
    }

    private void within(String why, String ahead, String call) {
        if (call.contains("=")) {
            run(why, ahead + " " + call);
            return;
        }
        TicketShore x = new TicketShore();
        int got = 0;
        for (Script.Call one : Script.of(ahead + " " + call)) got = Script.answer(x, one);
        Checks.yes(part + " \"" + sentence + "\", " + why + ": " + call + " is not refused",
            !Script.refuses(new Script.Call("", List.of(), null), got));
    }

    void end() {
        leave();
        List<String> left = new ArrayList<>();
        parts.forEach((name, text) -> {
            boolean[] marked = seen.get(name);
            StringBuilder rest = new StringBuilder();
            for (int i = 0; i < marked.length; i++) {
                if (!marked[i] && Character.isLetterOrDigit(text.charAt(i))) rest.append(text.charAt(i));
                else if (rest.length() > 0 && rest.charAt(rest.length() - 1) != ' ') rest.append(' ');
            }
            if (!rest.toString().isBlank()) left.add(name + ": " + rest);
        });
        for (String one : left) Checks.yes("without a test is " + one, false);
        System.out.println(tests + " runs of calls");
    }
}
