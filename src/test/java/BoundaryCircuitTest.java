/**
 * The sentences of 'Completion', 'Clashes' and 'Groups' and of promises 10 to 15 that name a boundary
 * case: each title is the sentence, or its part, that would be broken.
 */
public final class BoundaryCircuitTest {
    private static final String SIXTEEN = "A+A-".repeat(8);

    public static void main(String[] args) {
        completeMoves();
        completePauses();
        completeSteps();
        clashAtTheEdges();
        clashConditions();
        clashAnswers();
        fewestGroups();
        earliestCuts();
        numbersOfGroups();
        groupAnswers();
        valves();
        Script.end();
    }

    private static void completeMoves() {
        Script.run("A move is complete if the sensor of its end is on: 1 for +", "setMethod(0); read A+B+A-B- = 4",
                "ticks(2) = 1; position(0) = 2; sensor(0, 1) = false; ticks(1) = 0; position(0) = 3",
                "sensor(0, 1) = true",
                "isOut(1) = false; ticks(1) = 1; isOut(1) = true");
        Script.run("A move is complete if the sensor of its end is on: 0 for -", "setMethod(0); read A+B+A-B- = 4",
                "ticks(8) = 3; position(0) = 1; sensor(0, 0) = false; ticks(1) = 0; position(0) = 0",
                "sensor(0, 0) = true",
                "isOut(1) = true; ticks(1) = 1; isOut(1) = false");
        Script.run("the sensor, and not the position: off at the end", "setMethod(0); setFault(0, 3, true)",
                "read A+B+A-B- = 4; ticks(50) = 1; position(0) = 3; isOut(1) = false");
        Script.run("the sensor, and not the position: on before the end", "setMethod(2); setFault(0, 4, true)",
                "read A+B+A-B- = 4; ticks(1) = 1; ticks(1) = 1; position(0) = 2; isOut(1) = true");
    }

    private static void completePauses() {
        String title = "A pause is complete if its timer has counted at least as many ticks as its value";
        for (int method = 0; method < 3; method++) {
            String set = "setMethod(" + method + ");";
            Script.run(title, set, "read A+T1A- = 3; ticks(3) = 1; timer(1) = 0; ticks(1) = 0; timer(1) = 1",
                "ticks(1) = 1");
            Script.run(title, set, "read A+T2A- = 3; ticks(4) = 1; timer(1) = 1; ticks(1) = 0; timer(1) = 2",
                "ticks(1) = 1");
            Script.run(title, set, "read A+T60A- = 3; ticks(62) = 1; timer(1) = 59; ticks(1) = 0; timer(1) = 60",
                    "ticks(1) = 1; eventTime(0) = 63");
        }
        Script.run(title + ": more than its value", "setMethod(0); read A+T3A- = 3; ticks(7) = 2; timer(1) = 4",
                "ticks(1)",
                "commands(0) = 2");
    }

    private static void completeSteps() {
        String title = "A step is complete if all its moves are complete";
        for (int method = 0; method < 3; method++) {
            Script.run(title, "setMethod(" + method + "); setStroke(1, 4); read (A+B+)C+(A-B-)C- = 4; ticks(4) = 2",
                    "sensor(0, 1) = true; sensor(1, 1) = true; isOut(2) = false; ticks(1) = 1; isOut(2) = true");
            Script.run(title + ": one is missing", "setMethod(" + method + "); setFault(5, 3, true)",
                    "read (A+B+C+D+E+F+)T1(A-B-C-D-E-F-) = 3; ticks(99) = 6; position(5) = 3; timer(1) = 0");
        }
    }

    private static void clashAtTheEdges() {
        Script.run("For i = 0 this is the state with all cylinders retracted", "read A+B+B-A- = 4; clash(0, 0) = 3",
                "read A+B+C+B-C-A- = 6; clash(0, 0) = 5; read A+T1A- = 3; clash(0, 0) = -1");
        Script.run("after the steps 0 to i - 1 were made", "read A+B+B-A- = 4; clash(1, 1) = -1; clash(2, 1) = 1",
                "clash(3, 0) = -1; read A+B+B-B+B-A- = 6; clash(4, 1) = 1; clash(5, 0) = -1");
        Script.run("the step before j, for j = 0 the last one", "read A+A-B+B- = 4; clash(1, 0) = 0; clash(0, 0) = -1",
                "read A+A-T1 = 3; clash(1, 0) = -1; read A+A- = 2; clash(1, 0) = -1");
    }

    private static void clashConditions() {
        Script.run("all moves of the step before j have their cylinders at their ends", "read A+C+A-(A+B+)C-(A-B-) = 6",
                "clash(1, 2) = -1; clash(4, 2) = 1");
        Script.run("all moves: + and - in the same step", "read A+(A-B+)C+(B-C-) = 4; clash(2, 2) = -1",
                "clash(3, 2) = 2; read A+B+(A-B-)C+C- = 5; clash(0, 0) = -1; clash(3, 2) = -1; clash(4, 2) = 3");
        Script.run("and the step before j is not a pause", "read A+T1B+B-A- = 5; clash(3, 1) = -1; read A+B+B-A- = 4",
                "clash(2, 1) = 1; read T1A+B+B-A- = 5; clash(4, 0) = -1; clash(1, 0) = 4; read A+B+B-T1A- = 5",
                "clash(0, 0) = -1; clashes() = 1");
        Script.run("a move of X in the opposite direction", "read A+B+B-C+B+B-C-A- = 8; clash(5, 1) = 1",
                "clash(4, 1) = -1; clash(2, 1) = 1");
    }

    private static void clashAnswers() {
        Script.run("Counts the moves that clash", "read A+A- = 2; clashes() = 0; read A+B+A-B- = 4; clashes() = 0",
                "read A+B+B-A- = 4; clashes() = 2; read (A+B+)C+C-(A-B-) = 4; clashes() = 3",
                "read A+B+C+D+E+F+F-E-D-C-B-A- = 12; clashes() = 10; clash(5, 5) = -1; clash(11, 0) = -1");
        Script.run("Counts the moves that clash, with step 0 too", "read A+A-B+B- = 4; clash(1, 0) = 0; clashes() = 2");
        Script.run("16 steps without a clash",
                "read " + SIXTEEN + " = 16; clashes() = 0; clash(0, 0) = -1; clash(15, 0) = -1");
        Script.run("the smallest step j", "read A+B+B-C+B+B-C-A- = 8; clash(2, 1) = 1; clash(5, 1) = 1",
                "clash(0, 0) = 7");
        Script.run("-1 if there is none, or the cylinder does not move in this step", "read A+B+B-A- = 4",
                "clash(3, 0) = -1; clash(0, 1) = -1; clash(2, 0) = -1; clash(0, 5) = -1; clash(3, 5) = -1");
        Script.run("if there is no such step, or cylinder is out of its range", "clash(0, 0) = INDEX",
                "read A+B+B-A- = 4; clash(4, 0) = INDEX; clash(-1, 0) = INDEX; clash(0, 6) = INDEX",
                "clash(0, -1) = INDEX",
                "clash(4, 6) = INDEX; clash(2147483647, 0) = INDEX; clash(0, -2147483648) = INDEX; clash(0, 0) = 3",
                "read " + SIXTEEN + " = 16; clash(15, 5) = -1; clash(16, 0) = INDEX");
        Script.run("if there is no sequence", "clashes() = ISE; read A+ = -3; clashes() = ISE; groups() = ISE");
    }

    private static void fewestGroups() {
        Script.run("no cylinder has two moves in the same group",
                "read A+A- = 2; groups() = 2; read " + SIXTEEN + " = 16",
                "groups() = 16; cut(0) = 0; cut(15) = 15; groupOf(0) = 0; groupOf(15) = 15; cut(16) = INDEX");
        Script.run("There are at least two cuts", "read (A+B+C+D+E+F+)(A-B-C-D-E-F-) = 2; groups() = 2; cut(1) = 1",
                "cut(2) = INDEX; read A+" + "T1".repeat(14) + "A- = 16; groups() = 2; cut(0) = 0; cut(1) = 1");
        Script.run("the fewest groups; taken as a ring of steps", "read A+A-C+C- = 4; groups() = 2; cut(0) = 1",
                "cut(1) = 3",
                "read A+B+A-C+B-C- = 6; groups() = 2; cut(0) = 1; cut(1) = 4; read C+C-D+D-A+A- = 6; groups() = 3",
                "cut(0) = 1; cut(1) = 3; cut(2) = 5");
    }

    private static void earliestCuts() {
        Script.run("the one whose first cut is at the smallest step", "read T1A+A- = 3; cut(0) = 0; cut(1) = 2",
                "read A+A-T1 = 3; cut(0) = 0; cut(1) = 1; read T9B+B-A+A- = 5; groups() = 2; cut(0) = 2; cut(1) = 4",
                "read A+T1B+A-B-T1 = 6; cut(0) = 0; cut(1) = 3");
        Script.run("the steps before the first cut follow the last ones", "read B+A+A-C+B-C- = 6; groups() = 2",
                "cut(0) = 2",
                "cut(1) = 5; groupOf(0) = 1; groupOf(1) = 1; groupOf(2) = 0; groupOf(4) = 0; groupOf(5) = 1");
        Script.run("then the second one, and so on", "read A+T1T1A- = 4; cut(1) = 1; read A+T1A-T1A+T1A- = 7",
                "cut(0) = 0",
                "cut(1) = 1; cut(2) = 3; cut(3) = 5; cut(4) = INDEX; read A+A-B+B-A+A- = 6; cut(1) = 1; cut(2) = 3",
                "cut(3) = 5");
        Script.run("a cut at step i is one directly before step i", "read A+B+B-A- = 4; cut(1) = 2; groupOf(1) = 0",
                "groupOf(2) = 1; read A+A-C+C- = 4; cut(1) = 3; groupOf(2) = 0; groupOf(3) = 1");
    }

    private static void numbersOfGroups() {
        Script.run("The groups are numbered from 0 in the order of their first steps", "read A+A-A+A- = 4",
                "groupOf(0) = 0",
                "groupOf(1) = 1; groupOf(2) = 2; groupOf(3) = 3; groups() = 4");
        Script.run("steps before the first cut belong to the last group", "read T9B+B-A+A- = 5; groupOf(0) = 1",
                "groupOf(1) = 1; groupOf(2) = 0; groupOf(3) = 0; groupOf(4) = 1; read C+C-D+D-A+A- = 6; groupOf(0) = 2",
                "groupOf(1) = 0; groupOf(4) = 1; groupOf(5) = 2; read A+B+B-A- = 4; groupOf(0) = 0");
    }

    private static void groupAnswers() {
        Script.run("a new sequence's groups alone", "read A+B+A-B-A+B+A-B- = 8; cut(2) = 4; read A+A- = 2",
                "read A+B+C+A-B-C- = 6; groups() = 2; cut(1) = 3; cut(2) = INDEX; groupOf(2) = 0; groupOf(4) = 1",
                "groupOf(5) = 1");
        Script.run("if there is no such cut, or no sequence", "cut(0) = INDEX; cut(-1) = INDEX; read A+A- = 2",
                "cut(0) = 0",
                "cut(1) = 1; cut(2) = INDEX; cut(-1) = INDEX; cut(16) = INDEX; cut(2147483647) = INDEX",
                "cut(-2147483648) = INDEX; read A+A-A+A- = 4; cut(3) = 3; cut(4) = INDEX; read A+A- = 2",
                "cut(2) = INDEX");
        Script.run("if there is no such step", "groupOf(0) = INDEX; read A+A- = 2; groupOf(1) = 1; groupOf(2) = INDEX",
                "groupOf(-1) = INDEX; groupOf(2147483647) = INDEX; groupOf(-2147483648) = INDEX",
                "read " + SIXTEEN + " = 16",
                "groupOf(15) = 15; groupOf(16) = INDEX; read B+B- = 2; groupOf(2) = INDEX");
        Script.run("if there is no sequence", "groups() = ISE; read A+A- = 2; groups() = 2");
    }

    private static void valves() {
        Script.run("the cylinders that move in the sequence", "read F+F- = 2; valves(0) = 1; read A+F+A-F- = 4",
                "valves(0) = 2; read (A+B+C+D+E+F+)(A-B-C-D-E-F-) = 2; valves(0) = 6",
                "read " + SIXTEEN + " = 16; valves(0) = 1");
        Script.run("for the cascade, the number of groups minus 1", "read A+A- = 2; valves(1) = 2; read " + SIXTEEN
                + " = 16; valves(1) = 16; read A+B+A-B- = 4; valves(1) = 3");
        Script.run("for the stepper, the number of steps", "read A+A- = 2; valves(2) = 3; read " + SIXTEEN
                + " = 16; valves(2) = 17; read A+T1A- = 3; valves(2) = 4");
        Script.run("IllegalArgumentException if method is out of its range, before the other one", "valves(-1) = IAE",
                "valves(3) = IAE; valves(2147483647) = IAE; valves(-2147483648) = IAE; read A+A- = 2; valves(-1) = IAE",
                "valves(3) = IAE; valves(0) = 1; valves(2) = 3");
        Script.run("IllegalStateException if there is no sequence", "valves(0) = ISE; valves(1) = ISE; valves(2) = ISE",
                "read A+ = -3; valves(0) = ISE");
    }
}
