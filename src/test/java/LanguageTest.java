import java.io.IOException;
import java.nio.file.Files;
import java.nio.file.Path;
import java.util.HashMap;
import java.util.HashSet;
import java.util.List;
import java.util.Map;
import java.util.Set;
import java.util.regex.Matcher;
import java.util.regex.Pattern;

/** What of ../shared/LANGUAGE.md can be seen by looking at the source's words; the rule's number stands with each. */
public final class LanguageTest {
    private static final Path SOURCE = Path.of("src", "main", "java", "TicketShore.java");

    /** Comments and what stands between quotes are no code; a quoted text becomes QUOTED. */
    private static String codeOf(String source) {
        String code = source.replaceAll("(?s)/\\*.*?\\*/", " ").replaceAll("//[^\n]*", " ");
        return code.replaceAll("\"[^\"\n]*\"", "QUOTED").replaceAll("'(\\\\.|[^'\\\\])'", "SIGNED");
    }

    private static void none(String rule, String code, String pattern) {
        Matcher m = Pattern.compile(pattern).matcher(code);
        Checks.yes("rule " + rule + (m.find() ? ": " + m.group() : ""), !m.find(0));
    }

    private static void words(String code) {
        none("6", code, "\\b(throw|throws|try|catch|finally|synchronized|assert)\\b");
        none("2", code, "->|::");
        none("1", code, "\\bprotected\\b|\\bpackage\\b");
        none("4", code, "import (?!java\\.util\\.(Arrays|ArrayList|List|Iterator);)[^;]*;");
        none("4", code, "Exact\\b|\\bSystem\\.(?!arraycopy\\b)|String\\.|Character\\.|Object\\b|Collections|Stream");
        none("5", code, "\\bstatic (?!final\\b|int\\b|boolean\\b|String\\b|void\\b|Text\\b)");
        none("5", code, "static final (?!class\\b|int\\b|int\\[\\])");
        none("5", code, "static \\{");
        none("6", code, "\\b(equals|hashCode|toString)\\b");
        none("10", code, "QUOTED \\+|\\+ QUOTED");
        none("9", code, "while \\(true\\)|for \\(;|for \\([^;]*;\\s*;");
        none("13", code, "\\b(Thread|Random|nanoTime|currentTimeMillis)\\b");
    }

    private static final Pattern METHOD =
        Pattern.compile("\n( +)((?:public |private |static |final )*)([A-Za-z\\[\\]]+) (\\w+)\\(([^()]*)\\) \\{");

    private static void methods(String code) {
        Set<String> open = new HashSet<>();
        Map<String, Integer> hidden = new HashMap<>();
        Matcher m = METHOD.matcher(code);
        int many = 0;
        while (m.find()) {
            if (List.of("else", "return", "new").contains(m.group(3))) continue;
            many++;
            String name = m.group(4);
            if (m.group(2).contains("public")) open.add(name); else hidden.merge(name, 1, Integer::sum);
            int parameters = m.group(5).isBlank() ? 0 : m.group(5).split(",").length;
            Checks.yes("rule 11: parameters of " + name, parameters <= 7);
            int end = code.indexOf("\n" + m.group(1) + "}", m.end() - 1);
            Checks.yes("rule 11: lines of " + name, code.substring(m.start() + 1, end).lines().count() <= 60);
        }
        Checks.yes("methods were found: " + many, many > 150);
        hidden.keySet().retainAll(open);
        Checks.yes("rule 1: names of public methods: " + hidden.keySet(), hidden.isEmpty());
    }

    private static void classes(String code) {
        Matcher m = Pattern.compile("\\b(class|record|enum|interface) \\w+").matcher(code);
        int many = 0;
        while (m.find()) many++;
        Checks.yes("rule 11: classes: " + many, many <= 12);
        none("2", code, "\n    (private )?(final )?class ");
    }

    public static void main(String[] args) throws IOException {
        String source = Files.readString(SOURCE);
        Checks.yes("rule 4: signs are 1 to 127", source.chars().allMatch(c -> c > 0 && c < 128));
        String code = codeOf(source);
        words(code);
        methods(code);
        classes(code);
        Checks.end("LanguageTest");
    }
}
