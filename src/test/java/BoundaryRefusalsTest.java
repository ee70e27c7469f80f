/**
 * 'Exceptions': "A call that throws an exception changes nothing. If several exceptions apply to a call, the
 * one that is listed first is thrown." Every refused call in every kind of state; Script compares all that
 * later calls show with a run without the refused call.
 */
public final class BoundaryRefusalsTest {
    private static final String[] FAR = {"-1", "-2147483648", "2147483647"};

    public static void main(String[] args) {
        String none = "";
        String settings = "setStroke(1, 6); setFault(2, 4, true); read A+T4(B+C+)(A-B-)C- = 5;";
        String typing = Script.typed("A+");
        String full = settings + "ticks(9);" + Script.typed("(A+B+)(A-B-)".repeat(6) + "C+C-C+C-");
        withoutSequence(none);
        withoutSequence("setMethod(0); setStroke(3, 20); setFault(1, 0, true); setStart(false);" + typing);
        withoutSequence("setMethod(2); read A+A+ = -3");
        for (int method = 0; method < 3; method++) {
            withSequence(settings + "setMethod(" + method + ")");
            withSequence(settings + "setMethod(" + method + "); ticks(29);" + typing);
            withSequence(settings + "setMethod(" + method + "); ticks(33); setStart(false); ticks(2)");
        }
        withSequence(full);
        refused(full, "ISE", "type(32)", "type(65)", "type(126)");
        refused(Script.times(80, "type(65)"), "ISE", "type(32)", "type(65)", "type(126)");
        refused(Script.times(80, "type(65)"), "IAE", "type(31)", "type(127)");
        Script.end();
    }

    private static void refused(String setUp, String exception, String... calls) {
        for (String call : calls) {
            Script.run("a refused call", setUp, call + " = " + exception);
        }
    }

    private static void inEveryState(String setUp) {
        refused(setUp, "IAE", "type(31)", "type(127)", "setMethod(3)", "valves(3)", "works(3)", "cycleTime(3)",
                "setStroke(0, 0)", "setStroke(0, 21)", "setStroke(5, 0)", "setFault(0, 5, true)",
                "setFault(5, -1, false)",
                "ticks(5001)", "effect(0, 5, 0)", "effect(0, -1, 0)", "effect(5, 0, -1)", "effect(0, 4, 2001)");
        refused(setUp, "INDEX", "direction(0, 6)", "direction(0, -1)", "clash(0, 6)", "clash(0, -1)", "setStroke(6, 3)",
                "setStroke(-1, 0)", "setFault(6, 0, true)", "setFault(-1, 5, true)", "position(6)", "isOut(6)",
                "commands(6)", "sensor(6, 0)", "sensor(-1, 1)", "sensor(0, 2)", "sensor(5, -1)", "effect(6, 0, 0)",
                "effect(-1, 5, 2001)", "moves(16)", "pause(16)", "groupOf(16)", "timer(16)", "cut(16)", "clash(16, 0)");
        for (String far : FAR) {
            refused(setUp, "IAE", "type(" + far + ")", "setMethod(" + far + ")", "valves(" + far + ")",
                "works(" + far + ")",
                    "cycleTime(" + far + ")", "ticks(" + far + ")", "setStroke(0, " + far + ")",
                "effect(0, 0, " + far + ")");
            refused(setUp, "INDEX", "moves(" + far + ")", "direction(" + far + ", 0)", "pause(" + far + ")",
                    "clash(" + far + ", 0)", "cut(" + far + ")", "groupOf(" + far + ")", "timer(" + far + ")",
                    "position(" + far + ")", "isOut(" + far + ")", "commands(" + far + ")", "sensor(0, " + far + ")");
        }
        refused(setUp, "INDEX", "eventTime(-1)", "eventMove(-1)", "suspect(-1)", "eventTime(-2147483648)",
                "eventMove(-2147483648)", "suspect(-2147483648)");
    }

    private static void withoutSequence(String setUp) {
        inEveryState(setUp);
        refused(setUp, "ISE", "clashes()", "groups()", "valves(0)", "valves(2)", "ticks(0)", "ticks(5000)", "works(0)",
                "works(2)", "cycleTime(0)", "cycleTime(2)", "cheapest()", "effect(0, 0, 0)", "effect(5, 4, 2000)",
                "suspect(0)", "suspect(2147483647)");
        refused(setUp, "INDEX", "moves(0)", "direction(0, 0)", "pause(0)", "clash(0, 0)", "cut(0)", "groupOf(0)",
                "timer(0)");
    }

    /** The sequence of these set-ups has five steps and two groups. */
    private static void withSequence(String setUp) {
        inEveryState(setUp);
        refused(setUp, "INDEX", "moves(5)", "direction(5, 0)", "pause(5)", "clash(5, 0)", "cut(2)", "groupOf(5)",
                "timer(5)",
                "direction(5, 6)", "clash(-1, -1)");
    }
}
