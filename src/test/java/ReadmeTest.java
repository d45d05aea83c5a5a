import java.io.IOException;
import java.lang.reflect.Method;
import java.lang.reflect.Modifier;
import java.nio.file.Files;
import java.nio.file.Path;
import java.util.ArrayList;
import java.util.HashMap;
import java.util.List;
import java.util.Map;
import java.util.regex.Matcher;
import java.util.regex.Pattern;

/** What README.md shows of the class is so: each call in it answers what stands behind it, and none of the face is left out. */
public final class ReadmeTest {
    private static final Path README = Path.of("README.md");
    private static final String MADE = "TicketShore shore = new TicketShore();";
    private static final Pattern SHOWN =
        Pattern.compile("(?:int (\\w+) = )?shore\\.(\\w+)\\(([^)]*)\\); +// (-?\\w+)(?::.*)?");

    private static final Map<String, Integer> NAMES = new HashMap<>(Map.of("BAD", Checks.BAD, "NO", Checks.NO,
        "FULL", Checks.FULL, "NONE", Checks.NONE, "NOTHING", Checks.NOTHING, "KIND", Checks.KIND, "INDEX", Checks.INDEX,
        "SIZE", Checks.SIZE));

    private static List<String> shownLines(String readme) {
        List<String> lines = new ArrayList<>();
        Matcher m = Pattern.compile("(?s)```java\n(.*?)```").matcher(readme);
        while (m.find()) m.group(1).lines().forEach(lines::add);
        return lines;
    }

    private static int number(String word) {
        return NAMES.containsKey(word) ? NAMES.get(word) : Integer.decode(word);
    }

    private static void answer(TicketShore shore, String line) {
        Matcher m = SHOWN.matcher(line);
        Checks.yes("a call with its answer: " + line, m.matches());
        if (!m.matches()) return;
        List<Integer> args = new ArrayList<>();
        if (!m.group(3).isBlank()) for (String word : m.group(3).split(", *")) args.add(number(word));
        int got = Script.answer(shore, new Script.Call(m.group(2), args, null));
        Checks.eq(line, got, number(m.group(4)));
        if (m.group(1) != null) NAMES.put(m.group(1), got);
    }

    private static void examples(String readme) {
        List<String> lines = shownLines(readme);
        Checks.yes("README begins with a new object", !lines.isEmpty() && lines.get(0).equals(MADE));
        TicketShore shore = new TicketShore();
        for (int i = 1; i < lines.size(); i++) answer(shore, lines.get(i));
    }

    /** Each call once, in the rows of the table of calls. */
    private static void table(String readme) {
        String rows = readme.substring(readme.indexOf("| calls |"), readme.indexOf("```java"));
        int named = 0;
        for (Method one : TicketShore.class.getDeclaredMethods()) {
            if (!Modifier.isPublic(one.getModifiers())) continue;
            String name = "`" + one.getName() + "`";
            Checks.yes("once in the table: " + name, rows.split(name, -1).length == 2);
            named++;
        }
        Checks.eq("names in the table", rows.split("`", -1).length - 1, 2 * named);
    }

    public static void main(String[] args) throws IOException {
        String readme = Files.readString(README);
        table(readme);
        examples(readme);
        Checks.end("ReadmeTest");
    }
}
