import java.util.ArrayList;
import java.util.List;

/**
 * "A call that is refused .. changes nothing": of two objects with the same calls behind them one is refused a call;
 * then both are asked for all that can be asked, and have to answer alike.
 */
final class Twins {
    private static final List<List<Script.Call>> QUESTIONS = List.of(
        Script.of(each("told(%d,%d)", 14, 12) + "23*count(#) 6*hungry(#) 5*why(#)"),
        Script.of(each("has(%d,%d)", 6, 5) + each("of(%d,%d)", 14, 3) + each("markTold(%d,%d)", 40, 4)),
        Script.of(each("letterTold(%d,%d)", 20, 5) + each("path(%d,%d,0)", 6, 6) + each("mean(%d,%d)", 4, 8)
            + "8*harsh(#) 14*term(#,1) 6*store(#,0) 7*rules(0,209,#,#) 7*rules(1,#,#,#) 4*rules(2,#,#,0) 8*rules(3,#,1,2) 9*rules(4,9,#,0)"),
        Script.of(each("party(%d,%d,0)", 7, 3) + each("way(%d,%d,0,0)", 6, 3) + each("way(%d,%d,1,0)", 6, 3)
            + each("may(%d,%d)", 10, 3) + each("same(%d,%d)", 10, 10) + "14*due(#) 14*goes(#) most() seed(0)"),
        Script.of(each("read(%d,%d)", 4, 24) + "6*reach(#,9) carries(5) carries(9) 40*moves(#) plan(6,999,2) plan(3,20,2)"),
        Script.of("count(20) text(0) 14*of(#,2) 5*why(#) 3*rules(0,#,9,9) 40*voids(#,1)"),
        Script.of("count(19) check(30) count(19)"),
        Script.of("check(2) run(5) 23*count(#) " + each("told(%d,%d)", 14, 12)),
        Script.of("again() 23*count(#) " + each("told(%d,%d)", 14, 12) + "6*store(#,0) 5*why(#) 20*letterTold(#,3)"));

    private Twins() { }

    private static String each(String call, int first, int second) {
        StringBuilder all = new StringBuilder();
        for (int i = 0; i < first; i++) for (int j = 0; j < second; j++) all.append(String.format(call, i, j)).append(' ');
        return all.toString();
    }

    static void alike(String name, List<Script.Call> ahead, Script.Call refused) {
        List<Script.Call> with = new ArrayList<>(ahead);
        with.add(refused);
        List<Script.Call> without = new ArrayList<>(ahead);
        // Told to change with a refusal: THE TAPE that was read, and the numbers that wait for a check.
        if (refused.name().equals("text")) without.add(new Script.Call("trim", List.of(0), null));
        if (refused.name().equals("check")) without.removeIf(one -> one.name().equals("tell"));
        for (List<Script.Call> questions : QUESTIONS) {
            Checks.yes(name + "too many calls ahead", with.size() + questions.size() <= 512);
            TicketShore one = behind(with);
            TicketShore other = behind(without);
            for (Script.Call question : questions) {
                int got = Script.answer(one, question);
                int due = Script.answer(other, question);
                if (got != due) Checks.eq(name + question.words() + " behind the refused " + refused.words(), got, due);
            }
        }
        Checks.yes(name + "asked", true);
    }

    private static TicketShore behind(List<Script.Call> calls) {
        TicketShore x = new TicketShore();
        for (Script.Call call : calls) Script.answer(x, call);
        return x;
    }
}
