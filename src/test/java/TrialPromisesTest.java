/** Promises 35 to 40: trials and the fingerprint. */
public final class TrialPromisesTest {
    private static final String IAE = "throws IllegalArgumentException";
    private static final String ISE = "throws IllegalStateException";
    private static final String INDEX = "throws IndexOutOfBoundsException";

    public static void main(String[] args) {
        works();
        cycleTime();
        cheapest();
        effect();
        suspect();
        nothingIsChanged();
        fingerprint();
        Script.end();
    }

    private static void works() {
        Script.run("promise 35", "read A+B+B-A- = 4; works(0) = false; works(1) = true; works(2) = true",
                "read A+B+A-B- = 4; works(0) = true; works(1) = true; works(2) = true",
                "read A+A-B+B- = 4; works(0) = false; works(1) = true; works(2) = true",
                "works(3) = " + IAE, "works(-1) = " + IAE, "works(-2147483648) = " + IAE);
        Script.run("promise 35, faults and start signal do not matter", "setStart(false); setFault(0, 0, true)",
                "setFault(0, 3, true); read A+B+A-B- = 4; works(0) = true; works(1) = true; works(2) = true",
                "setMethod(2); works(0) = true");
        Script.run("promise 35, the longest pauses", "read A+" + "T60".repeat(14) + "A- = 16; works(0) = true",
                "works(1) = true; works(2) = true");
        Script.run("promise 35 without a sequence", "works(0) = " + ISE, "works(2) = " + ISE, "works(3) = " + IAE,
                "works(-1) = " + IAE);
    }

    private static void cycleTime() {
        Script.run("promise 36", "read A+A- = 2; cycleTime(0) = 6; cycleTime(1) = 6; cycleTime(2) = 7",
                "setStroke(0, 5); cycleTime(0) = 10; cycleTime(1) = 10; cycleTime(2) = 11; setStroke(0, 20)",
                "cycleTime(0) = 40; setStroke(0, 1); cycleTime(0) = 2; cycleTime(2) = 3");
        Script.run("promise 36, a pause", "read A+T3A- = 3; cycleTime(0) = 9; cycleTime(1) = 9; cycleTime(2) = 10",
                "setFault(0, 0, true); setStart(false); cycleTime(1) = 9; setMethod(2); cycleTime(1) = 9");
        Script.run("promise 36, one that does not work", "read A+B+B-A- = 4; cycleTime(0) = -1; cycleTime(1) = 12",
                "cycleTime(2) = 13", "cycleTime(3) = " + IAE, "cycleTime(-1) = " + IAE);
        Script.run("promise 36 without a sequence", "cycleTime(0) = " + ISE, "cycleTime(3) = " + IAE);
    }

    private static void cheapest() {
        Script.run("promise 37", "cheapest() = " + ISE, "read A+B+B-A- = 4; cheapest() = 1; read A+B+A-B- = 4",
                "cheapest() = 0; read A+A-B+B- = 4; cheapest() = 1; setFault(0, 0, true); setStart(false)",
                "read A+A- = 2; cheapest() = 0");
    }

    private static void effect() {
        Script.run("promise 38, direct", "setMethod(0); read A+A- = 2; effect(0, 0, 0) = 0; effect(0, 0, 1) = 1",
                "effect(0, 0, 2000) = 1; effect(0, 1, 50) = 0; effect(0, 2, 50) = 1; effect(0, 3, 50) = 1",
                "effect(0, 4, 50) = 0; effect(1, 0, 9) = 3; effect(1, 0, 10) = 4; effect(5, 4, 10) = 4");
        Script.run("promise 38, cascade", "read A+A- = 2; effect(0, 0, 50) = 1; effect(0, 1, 50) = 0",
                "effect(0, 4, 10) = 10; effect(0, 3, 50) = 1; effect(2, 0, 10) = 4");
        Script.run("promise 38, stepper", "setMethod(2); read A+A- = 2; effect(0, 1, 50) = 2; effect(0, 0, 50) = 1",
                "effect(3, 1, 8) = 3; effect(3, 1, 7) = 2");
        Script.run("promise 38, a wrong event", "setMethod(0); read A+A-B+B- = 4; effect(5, 0, 50) = 1",
                "effect(0, 1, 50) = 1; effect(1, 1, 50) = 0");
        Script.run("promise 38, this fault alone, with the start signal on", "setMethod(0); read A+A- = 2",
                "setFault(0, 0, true); setStart(false); effect(1, 0, 10) = 4; setFault(1, 1, true)",
                "effect(0, 3, 50) = 1; setStroke(0, 5); effect(1, 0, 10) = 2; effect(1, 0, 11) = 3");
        String wrong = String.join(";", "effect(6, 0, 0) = " + INDEX, "effect(-1, 0, 0) = " + INDEX,
                "effect(0, 5, 0) = " + IAE, "effect(0, -1, 0) = " + IAE, "effect(0, 0, -1) = " + IAE,
                "effect(0, 0, 2001) = " + IAE, "effect(6, 5, 2001) = " + INDEX, "effect(6, 0, -1) = " + INDEX,
                "effect(0, 5, -1) = " + IAE, "effect(2147483647, 0, 0) = " + INDEX,
                "effect(0, -2147483648, 0) = " + IAE, "effect(0, 0, 2147483647) = " + IAE);
        Script.run("promise 38, wrong arguments", "read A+A- = 2", wrong);
        Script.run("promise 38 without a sequence", wrong, "effect(0, 0, 0) = " + ISE, "effect(0, 0, 2000) = " + ISE);
    }

    private static void suspect() {
        Script.run("promise 39, at rest each fault explains it", "read A+A- = 2; suspect(0) = 0; suspect(1) = 1",
                "suspect(4) = 4; suspect(5) = 10; suspect(29) = 54; suspect(30) = -1; suspect(2147483647) = -1",
                "suspect(-1) = " + INDEX, "suspect(-2147483648) = " + INDEX);
        Script.run("promise 39, a sensor that is off", "setMethod(0); read A+B+A-B- = 4; setFault(1, 3, true)",
                "ticks(60) = 2; suspect(0) = 12; suspect(1) = 13; suspect(2) = -1");
        Script.run("promise 39, at most 5000 ticks", "setMethod(0); read A+A- = 2; ticks(5000); suspect(0) = 10",
                "suspect(24) = 54; suspect(25) = -1; ticks(1000); suspect(0) = 1; suspect(1) = 4; suspect(2) = -1");
        Script.run("promise 39, the trial has the start signal on", "read A+A- = 2; setStart(false); ticks(9) = 0",
                "suspect(0) = 1; suspect(1) = -1");
        Script.run("promise 39, the valves count too", "setMethod(2); read A+A- = 2; setFault(0, 0, true); ticks(9)",
                "position(0) = 0; isOut(0) = true; suspect(0) = 0; suspect(1) = -1; setFault(0, 1, true)",
                "setFault(0, 0, false); rest(); ticks(40) = 2; isOut(0) = false; suspect(0) = 1; suspect(1) = -1");
        Script.run("promise 39 without a sequence", "suspect(0) = " + ISE, "suspect(30) = " + ISE,
                "suspect(-1) = " + INDEX);
    }

    private static void nothingIsChanged() {
        for (int method = 0; method < 3; method++) {
            String setUp = "setMethod(" + method + "); setStroke(1, 6); read A+T4(B+C+)(A-B-)C- = 5;"
                    + "setFault(2, 4, true); ticks(25); setStart(false); type(65); type(43)";
            String[] calls = {"works(0)", "works(1)", "works(2)", "cycleTime(0)", "cycleTime(1)", "cycleTime(2)",
                "cheapest()", "effect(0, 0, 77)", "effect(1, 4, 2000)", "suspect(0)", "suspect(29)", "clashes()"};
            for (String call : calls) {
                Script.unchanged("a trial changes nothing", setUp, call);
            }
        }
    }

    private static void fingerprint() {
        Script.run("promise 40, the document's numbers", "fingerprint() = " + print(0, -1, 0, 0, 0, 0,
                0, 0, 0, 0, 0, 0, 0, 0, 0, 0, 0, 0, 0, 0, 0, 0, 0, 0));
        Script.run("promise 40, direct", "setMethod(0); read A+T3A- = 3; ticks(5) = 1", "fingerprint() = "
                + print(5, -1, 1, 1, 0, 2, 3, 1, 0, 0, 0, 0, 0, 0, 0, 0, 0, 0, 0, 0, 0, 0, 0, 0, 0, 2, 0));
        Script.run("promise 40, cascade", "read B+T3B- = 3; ticks(8) = 2", "fingerprint() = "
                + print(8, 1, 2, 2, 1, 0, 0, 0, 0, 1, 0, 2, 0, 0, 0, 0, 0, 0, 0, 0, 0, 0, 0, 0, 0, 5, 0));
    }

    private static long print(int... numbers) {
        long value = 19;
        for (int number : numbers) {
            value = 31 * value + number;
        }
        return value;
    }
}
