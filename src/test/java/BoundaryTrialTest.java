/**
 * The sentences of promises 35 to 40, and of 'Rest' on trials, that name a boundary case: each title is
 * the sentence, or its part, that would be broken. The bound of 4000 ticks cannot be reached: two cycles
 * of 16 steps of at most 60 ticks take less.
 */
public final class BoundaryTrialTest {
    private static final String LONGEST = "A+" + "T60".repeat(14) + "A-";

    public static void main(String[] args) {
        works();
        worksWithoutFaults();
        cycleTime();
        cheapest();
        effectRanges();
        effectOfTheFault();
        suspectRanges();
        suspectAtMost5000();
        suspectCompares();
        trialsChangeNothing();
        fingerprint();
        Script.end();
    }

    private static void works() {
        String title = "the first 2 cycles are made, and no event up to the one that makes the second cycle is wrong";
        Script.run(title, "read A+B+A-B- = 4; works(0) = true; works(1) = true; works(2) = true");
        Script.run(title + ": no event at all", "read A+B+B-A- = 4; works(0) = false; setMethod(0); ticks(4000) = 0");
        Script.run(title + ": wrong in the first tick", "read A+A-B+B- = 4; works(0) = false; works(1) = true",
                "works(2) = true");
        // A+, A- with B+, A+ with B-; then A- makes the first cycle, and B+ behind it is not due.
        Script.run(title + ": the first cycle alone", "read A+(A-B+)(A+B-)A- = 4; works(0) = false; cycleTime(0) = -1",
                "works(1) = true; works(2) = true; setMethod(0); ticks(9) = 5; rightEvents() = 5; cycles() = 0",
                "ticks(1) = 2",
                "eventMove(1) = 0; eventMove(0) = 3; rightEvents() = 6; cycles() = 1");
        Script.run(title + ": the first cycle alone, wrong in a later tick", "setStroke(0, 2); setStroke(1, 6)",
                "read T7B+A+B-B+B-A- = 7; works(0) = false; cycleTime(0) = -1; works(1) = true; setMethod(0)",
                "ticks(300)",
                "cycles() = 1");
        Script.run("within 4000 ticks: the longest sequences",
                "setStroke(0, 20); read " + LONGEST + " = 16; works(0) = true",
                "works(1) = true; works(2) = true");
        Script.run("IllegalArgumentException if method is out of its range, before the other one", "works(3) = IAE",
                "works(-1) = IAE; works(2147483647) = IAE; works(-2147483648) = IAE; read A+A- = 2; works(3) = IAE",
                "works(-1) = IAE",
                "works(0) = true; works(2) = true");
        Script.run("IllegalStateException if there is no sequence", "works(0) = ISE; works(1) = ISE; works(2) = ISE",
                "read A+ = -3; works(1) = ISE");
    }

    private static void worksWithoutFaults() {
        for (int kind = 0; kind < 5; kind++) {
            Script.run("in a trial without faults, from rest, with the start signal on", "read A+B+A-B- = 4",
                    "setFault(0, " + kind + ", true); setFault(1, " + kind + ", true); setStart(false); ticks(7)",
                    "works(0) = true; works(1) = true; works(2) = true; cycleTime(0) = 12; cycleTime(1) = 12",
                "cycleTime(2) = 13",
                    "cheapest() = 0");
        }
        Script.run("with the same strokes", "setStroke(1, 20); read A+B+A-B- = 4; cycleTime(0) = 46; setStroke(1, 1)",
                "cycleTime(0) = 8");
    }

    private static void cycleTime() {
        String title = "the time from the event that makes the first cycle to the one that makes the second one";
        Script.run(title, "setStroke(0, 1); read A+A- = 2; cycleTime(0) = 2; cycleTime(1) = 2; cycleTime(2) = 3");
        Script.run(title, "setStroke(0, 20); read A+A- = 2; cycleTime(0) = 40; cycleTime(1) = 40; cycleTime(2) = 41");
        Script.run(title + ": not from the rest", "read A+A-T3 = 3; cycleTime(0) = 9; cycleTime(2) = 10");
        Script.run(title + ": the longest sequence", "setStroke(0, 20); read " + LONGEST + " = 16; cycleTime(0) = 880",
                "cycleTime(1) = 880; cycleTime(2) = 881");
        Script.run("-1 if the circuit does not work", "read A+B+B-A- = 4; cycleTime(0) = -1; cycleTime(1) = 12");
        Script.run("IllegalArgumentException if method is out of its range, before the other one", "cycleTime(3) = IAE",
                "cycleTime(-1) = IAE; cycleTime(2147483647) = IAE; cycleTime(-2147483648) = IAE; read A+A- = 2",
                "cycleTime(3) = IAE; cycleTime(-1) = IAE; cycleTime(2) = 7");
        Script.run("IllegalStateException if there is no sequence", "cycleTime(0) = ISE; cycleTime(1) = ISE",
                "cycleTime(2) = ISE");
    }

    private static void cheapest() {
        Script.run("the circuit that works with the fewest valves", "read A+B+A-B- = 4; cheapest() = 0",
                "read A+B+B-A- = 4",
                "cheapest() = 1; setMethod(2); cheapest() = 1; read A+(A-B+)(A+B-)A- = 4; cheapest() = 1");
        Script.run("if there is no sequence", "cheapest() = ISE; read T1 = -3; cheapest() = ISE");
    }

    private static void effectRanges() {
        Script.run("n: 0 to 2000", "setMethod(0); read A+A- = 2; effect(1, 0, 0) = 0; effect(1, 0, 1) = 1",
                "effect(1, 0, 3) = 1",
                "effect(1, 0, 4) = 2; effect(1, 0, 1998) = 666; effect(1, 0, 1999) = 667; effect(1, 0, 2000) = 667",
                "effect(1, 0, 2001) = IAE; effect(1, 0, -1) = IAE");
        String wrong = "effect(6, 0, 0) = INDEX; effect(-1, 0, 0) = INDEX; effect(6, 5, 2001) = INDEX;"
                + "effect(-1, -1, -1) = INDEX;"
                + "effect(2147483647, 0, 0) = INDEX; effect(-2147483648, 0, 0) = INDEX; effect(0, 5, 0) = IAE;"
                + "effect(0, -1, 0) = IAE; effect(0, 0, 2001) = IAE; effect(0, 0, -1) = IAE; effect(0, 5, 2001) = IAE;"
                + "effect(5, 4, 2001) = IAE; effect(0, 2147483647, 0) = IAE; effect(0, -2147483648, 0) = IAE;"
                + "effect(0, 0, 2147483647) = IAE; effect(0, 0, -2147483648) = IAE;";
        Script.run("of several exceptions the one that is listed first: without a sequence",
                wrong, "effect(0, 0, 0) = ISE",
                "effect(5, 4, 2000) = ISE");
        Script.run("of several exceptions the one that is listed first: with a sequence", "read A+A- = 2; ticks(4)",
                wrong,
                "effect(0, 0, 0) = 0; effect(5, 4, 2000) = 667");
    }

    private static void effectOfTheFault() {
        Script.run("the number of right events: not of all events", "setMethod(0); read A+A-B+B- = 4",
                "effect(5, 0, 500) = 1");
        String each = "effect(0, 0, 50) = 1; effect(0, 1, 50) = 0; effect(0, 2, 50) = 1; effect(0, 3, 50) = 1;"
                + "effect(0, 4, 50) = 0;"
                + "effect(5, 0, 50) = 17; effect(5, 4, 50) = 17;";
        Script.run("with the present method and this fault alone", "setMethod(0); read A+A- = 2", each);
        Script.run("this fault alone: not the faults of the rig", "setMethod(0); read A+A- = 2; setFault(0, 0, true)",
                "setFault(0, 1, true); setFault(0, 3, true); setFault(5, 4, true)", each);
        Script.run("a trial: from rest, with the start signal on", "setMethod(0); read A+A- = 2; ticks(5)",
                "setStart(false)", each);
        Script.run("the present method", "read A+A- = 2; effect(0, 4, 10) = 10; setMethod(2); effect(0, 4, 10) = 7",
                "setMethod(0)",
                "effect(0, 4, 10) = 0");
    }

    private static void suspectRanges() {
        Script.run("ordered by the cylinders, then by the kinds; -1 if there are not so many", "read A+A- = 2",
                "suspect(0) = 0",
                "suspect(1) = 1; suspect(4) = 4; suspect(5) = 10; suspect(9) = 14; suspect(25) = 50; suspect(29) = 54",
                "suspect(30) = -1; suspect(31) = -1; suspect(2147483647) = -1");
        Script.run("-1 if there are not so many: none at all", "read A+A- = 2; ticks(2); setFault(0, 0, true)",
                "ticks(9)",
                "time() = 11; position(0) = 2; suspect(0) = -1; suspect(2147483647) = -1; setFault(0, 0, false)",
                "setFault(0, 3, true); ticks(1); position(0) = 3; suspect(0) = 3; suspect(1) = -1; ticks(3)",
                "suspect(0) = 2",
                "suspect(1) = 3; suspect(2) = 10; suspect(26) = 54; suspect(27) = -1");
        Script.run("IndexOutOfBoundsException if i is negative, before the other one", "suspect(-1) = INDEX",
                "suspect(-2147483648) = INDEX; read A+A- = 2; ticks(5); suspect(-1) = INDEX",
                "suspect(-2147483648) = INDEX");
        Script.run("IllegalStateException if there is no sequence", "suspect(0) = ISE; suspect(29) = ISE",
                "suspect(2147483647) = ISE");
    }

    /** Direct, A+A- goes round in 6 ticks; at 5001 the rig is where no undisturbed trial of 5000 ticks ends. */
    private static void suspectAtMost5000() {
        String title = "of as many ticks as the present time, at most 5000";
        String set = "setMethod(0); read A+A- = 2; ticks(4999);";
        Script.run(title + ": 4999", set, "suspect(0) = 10; suspect(24) = 54; suspect(25) = -1");
        Script.run(title + ": 5000", set, "ticks(1); suspect(0) = 10; suspect(24) = 54; suspect(25) = -1");
        Script.run(title + ": 5001", set, "ticks(2); position(0) = 3; suspect(0) = 2; suspect(1) = 3; suspect(2) = -1");
        Script.run(title + ": 5006", set, "ticks(7); suspect(0) = 10; suspect(24) = 54; suspect(25) = -1");
        Script.run(title + ": 10001", set, "ticks(2); ticks(5000); time() = 10001; position(0) = 1; isOut(0) = false",
                "suspect(0) = -1");
    }

    private static void suspectCompares() {
        Script.run("the same positions and the same valves of all cylinders: the valves", "setMethod(2); read A+A- = 2",
                "setFault(0, 0, true); ticks(9); position(0) = 0; isOut(0) = true; suspect(0) = 0; suspect(1) = -1");
        Script.run("the same positions and the same valves: the positions", "setMethod(2); read A+A- = 2; ticks(1)",
                "suspect(0) = 1; suspect(1) = 2; suspect(2) = 3; suspect(3) = 4; suspect(4) = 10; suspect(28) = 54",
                "suspect(29) = -1");
        Script.run("of all cylinders", "setMethod(0); setFault(5, 3, true); read A+F+A-F- = 4; ticks(40)",
                "position(5) = 3",
                "suspect(0) = 52; suspect(1) = 53; suspect(2) = -1");
        Script.run("a trial: with the start signal on and this fault alone", "read A+A- = 2; setStart(false); ticks(9)",
                "suspect(0) = 1; suspect(1) = -1");
    }

    private static void trialsChangeNothing() {
        String set = "setStroke(1, 6); setFault(2, 4, true); read A+T4(B+C+)(A-B-)C- = 5;";
        String calls = "works(0); works(1); works(2); cycleTime(0); cycleTime(2); cheapest(); effect(0, 3, 2000);"
                + "effect(5, 0, 0);"
                + "suspect(0); suspect(29)";
        for (int method = 0; method < 3; method++) {
            Script.unchanged("nothing is changed by it: at rest", set + "setMethod(" + method + ");", calls);
            Script.unchanged("nothing is changed by it: under way",
                set + "setMethod(" + method + "); ticks(29); type(65)", calls);
            Script.unchanged("nothing is changed by it: start signal off", set + "setMethod(" + method + "); ticks(3);"
                    + "setStart(false); ticks(9)", calls);
        }
    }

    private static void fingerprint() {
        fingerprintOf("the fingerprint without a sequence", 1, "", 0);
        for (int method = 0; method < 3; method++) {
            for (int ticks : new int[] {0, 1, 4, 6, 7, 11, 40, 5000}) {
                fingerprintOf("the fingerprint", method, "(A+F+)T4B+(A-F-)B-T2", ticks);
                fingerprintOf("the fingerprint of 16 steps", method, "A+A-".repeat(7) + "T1T3", ticks);
                fingerprintOf("the fingerprint behind a wrong event or a jam", method, "E+E-C+C-", ticks);
            }
        }
    }

    private static void fingerprintOf(String title, int method, String text, int ticks) {
        SequenceBench b = new SequenceBench();
        b.setMethod(method);
        text.chars().forEach(b::type);
        if (!text.isEmpty()) {
            b.readSequence();
            b.ticks(ticks);
        }
        long print = 19;
        for (int number : new int[] {b.time(), b.active(), b.events(), b.rightEvents(), b.cycles(), b.quiet()}) {
            print = 31 * print + number;
        }
        for (int c = 0; c < 6; c++) {
            print = 31 * print + b.position(c);
            print = 31 * print + (b.isOut(c) ? 1 : 0);
            print = 31 * print + b.commands(c);
        }
        for (int step = 0; step < b.steps(); step++) {
            print = 31 * print + b.timer(step);
        }
        Script.due(title + " " + method + " " + text + " " + ticks, b.fingerprint(), print);
    }
}
