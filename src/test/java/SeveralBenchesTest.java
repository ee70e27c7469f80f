import java.util.ArrayList;
import java.util.List;

/** 'Creates a bench': each object is a bench of its own; used in turns, they answer as each does alone. */
public final class SeveralBenchesTest {
    private static final int LONGEST_TEXT = 20;

    public static void main(String[] args) {
        List<List<String>> runs = List.of(callsOf("A+T4(B+C+)(A-B-)C-", 0, 4), callsOf("A+A-C+C-", 1, 2),
                callsOf("(A+F+)T9(A-F-)", 2, 20), callsOf("A+B+B-A+", 1, 1), callsOf("A+B+B-A-", 0, 7));
        List<List<String>> together = inTurns(runs);
        for (int i = 0; i < runs.size(); i++) {
            List<String> alone = inTurns(List.of(runs.get(i))).get(0);
            for (int call = 0; call < alone.size(); call++) {
                Script.due("bench " + i + " among the others: call " + call + ", " + runs.get(i).get(call),
                        together.get(i).get(call), alone.get(call));
            }
        }
        Script.due("different answers", together.stream().distinct().count(), (long) runs.size());
        Script.end();
    }

    /** As many calls whatever the text, so that runs can be made in turns. */
    private static List<String> callsOf(String text, int method, int stroke) {
        List<String> calls = new ArrayList<>(List.of("setMethod(" + method + ")", "setStroke(1, " + stroke + ")",
                "setFault(" + method + ", 3, true)", "setStart(" + (method != 2) + ")"));
        for (int i = 0; i < LONGEST_TEXT; i++) {
            calls.add(i < text.length() ? "type(" + (int) text.charAt(i) + ")" : "time()");
        }
        calls.addAll(List.of("readSequence()", "errorKind()", "steps()", "clashes()", "groups()", "cheapest()"));
        for (int i = 0; i < 30; i++) {
            calls.add("ticks(" + (i + method) % 5 + ")");
            calls.add("fingerprint()");
            calls.add("eventMove(" + i + ")");
            calls.add("works(" + i % 3 + ")");
            calls.add("effect(" + i % 6 + ", " + i % 5 + ", 40)");
            calls.add("suspect(" + i % 3 + ")");
        }
        calls.addAll(List.of("setStart(true)", "setFault(0, 3, true)", "setStroke(1, 3)", "clearText()"));
        return calls;
    }

    private static List<List<String>> inTurns(List<List<String>> runs) {
        List<SequenceBench> benches = new ArrayList<>();
        List<List<String>> answers = new ArrayList<>();
        for (int i = 0; i < runs.size(); i++) {
            benches.add(new SequenceBench());
            answers.add(new ArrayList<>());
        }
        for (int call = 0; call < runs.get(0).size(); call++) {
            for (int i = 0; i < runs.size(); i++) {
                answers.get(i).add(Script.answer(benches.get(i), runs.get(i).get(call)));
            }
        }
        return answers;
    }
}
