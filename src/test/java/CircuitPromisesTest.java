/** Promises 10 to 15: clashes, groups and valves. */
public final class CircuitPromisesTest {
    private static final String IAE = "throws IllegalArgumentException";
    private static final String ISE = "throws IllegalStateException";
    private static final String INDEX = "throws IndexOutOfBoundsException";

    public static void main(String[] args) {
        clashes();
        clashWithGroupsAndPauses();
        groups();
        cuts();
        valves();
        Script.end();
    }

    private static void clashes() {
        Script.run("promises 10, 11: two clashes", "read A+B+B-A- = 4; clashes() = 2; clash(0, 0) = 3",
                "clash(1, 1) = -1; clash(2, 1) = 1; clash(3, 0) = -1; clash(0, 1) = -1; clash(2, 0) = -1");
        Script.run("promises 10, 11: none", "read A+B+A-B- = 4; clashes() = 0; clash(0, 0) = -1; clash(1, 1) = -1",
                "clash(2, 0) = -1; clash(3, 1) = -1");
        Script.run("promises 10, 11: a clash with step 0", "read A+A-B+B- = 4; clashes() = 2; clash(0, 0) = -1",
                "clash(1, 0) = 0; clash(2, 1) = -1; clash(3, 1) = 2");
        Script.run("promise 10: one cylinder has none", "read A+A-A+A- = 4; clashes() = 0");
        Script.run("promises 10, 11: a cylinder that moves twice", "read A+B+B-B+B-A- = 6; clashes() = 3",
                "clash(0, 0) = 5; clash(1, 1) = -1; clash(2, 1) = 1; clash(3, 1) = -1; clash(4, 1) = 1",
                "clash(5, 0) = -1");
        Script.run("promise 11: the smallest step of several", "read A+B+B-C+B+B-C-A- = 8; clash(2, 1) = 1",
                "clash(5, 1) = 1; clash(1, 1) = -1");
        Script.run("promise 10 without a sequence", "clashes() = " + ISE, "clash(0, 0) = " + INDEX);
        Script.run("promise 11, wrong arguments", "read A+B+B-A- = 4", "clash(4, 0) = " + INDEX,
                "clash(-1, 0) = " + INDEX, "clash(0, 6) = " + INDEX, "clash(0, -1) = " + INDEX,
                "clash(2147483647, 0) = " + INDEX, "clash(0, -2147483648) = " + INDEX, "clash(3, 5) = -1");
    }

    private static void clashWithGroupsAndPauses() {
        Script.run("promises 10, 11: moves in parallel", "read (A+B+)C+C-(A-B-) = 4; clashes() = 3",
                "clash(0, 0) = 3; clash(0, 1) = 3; clash(1, 2) = -1; clash(2, 2) = 1; clash(3, 0) = -1",
                "clash(3, 1) = -1");
        Script.run("promise 11: all moves of the step before count", "read (A+B+)A-C+(B-C-) = 4; clashes() = 1",
                "clash(1, 0) = -1; clash(3, 2) = 2; clash(3, 1) = -1");
        Script.run("promise 11: a step before that is a pause", "read T3A+A- = 3; clashes() = 0; clash(2, 0) = -1",
                "clash(0, 0) = -1; read A+B+T2B-A- = 5; clash(0, 0) = 4; clash(1, 1) = -1; clash(3, 1) = 1",
                "clashes() = 2; read A+T2B+B-A- = 5; clash(3, 1) = -1; clash(0, 0) = 4; clashes() = 1");
    }

    private static void groups() {
        Script.run("promise 12", "read A+B+B-A- = 4; groups() = 2; read A+A-A+A- = 4; groups() = 4",
                "read A+A-B+B-A+A- = 6; groups() = 4; read A+B+C+A-B-C- = 6; groups() = 2; read A+T3A- = 3",
                "groups() = 2; read (A+B+)(A-B-) = 2; groups() = 2",
                "read " + "A+A-".repeat(8) + " = 16; groups() = 16");
        Script.run("promise 12, a division that does not begin at step 0", "read A+B+A-C+B-C- = 6; groups() = 2");
        Script.run("promise 12 without a sequence", "groups() = " + ISE, "cut(0) = " + INDEX, "groupOf(0) = " + INDEX);
    }

    private static void cuts() {
        Script.run("promise 13", "read A+B+B-A- = 4; cut(0) = 0; cut(1) = 2", "cut(2) = " + INDEX,
                "cut(-1) = " + INDEX, "cut(2147483647) = " + INDEX, "cut(-2147483648) = " + INDEX);
        Script.run("promises 13, 14: no cut at step 0", "read A+B+A-C+B-C- = 6; cut(0) = 1; cut(1) = 4",
                "cut(2) = " + INDEX, "groupOf(0) = 1; groupOf(1) = 0; groupOf(2) = 0; groupOf(3) = 0",
                "groupOf(4) = 1; groupOf(5) = 1");
        Script.run("promises 13, 14: the earliest of several cuts", "read A+T1T1A- = 4; cut(0) = 0; cut(1) = 1",
                "groupOf(0) = 0; groupOf(1) = 1; groupOf(3) = 1; read A+A-T3 = 3; cut(0) = 0; cut(1) = 1",
                "groupOf(2) = 1; read T3A+A- = 3; cut(0) = 0; cut(1) = 2; groupOf(0) = 0; groupOf(1) = 0",
                "groupOf(2) = 1; read A+B+A-B- = 4; cut(0) = 0; cut(1) = 2");
        Script.run("promises 13, 14: four groups", "read A+A-B+B-A+A- = 6; cut(0) = 0; cut(1) = 1; cut(2) = 3",
                "cut(3) = 5", "cut(4) = " + INDEX, "groupOf(0) = 0; groupOf(1) = 1; groupOf(2) = 1; groupOf(3) = 2",
                "groupOf(4) = 2; groupOf(5) = 3");
        Script.run("promise 14, wrong arguments", "read A+B+B-A- = 4; groupOf(3) = 1", "groupOf(4) = " + INDEX,
                "groupOf(-1) = " + INDEX, "groupOf(2147483647) = " + INDEX);
    }

    private static void valves() {
        Script.run("promise 15", "read A+B+B-A- = 4; valves(0) = 2; valves(1) = 3; valves(2) = 6",
                "read (A+B+)T4(A-B-) = 3; valves(0) = 2; valves(1) = 3; valves(2) = 5",
                "read A+A-A+A- = 4; valves(0) = 1; valves(1) = 4; valves(2) = 5",
                "read (A+B+C+D+E+F+)(A-B-C-D-E-F-) = 2; valves(0) = 6; valves(1) = 7; valves(2) = 8",
                "valves(3) = " + IAE, "valves(-1) = " + IAE, "valves(2147483647) = " + IAE);
        Script.run("promise 15 without a sequence", "valves(0) = " + ISE, "valves(2) = " + ISE,
                "valves(3) = " + IAE, "valves(-1) = " + IAE);
    }
}
