/**
 * The sentences of promises 16 to 34 that name a boundary case: each title is the sentence, or its part,
 * that would be broken.
 */
public final class BoundaryRigTest {
    /** One event in each tick, the first one at the time 0. */
    private static final String FAST = "setMethod(0); setStroke(0, 1); read A+A- = 2;";

    public static void main(String[] args) {
        setMethod();
        setStroke();
        setStart();
        setFault();
        rest();
        ticks();
        manyTicks();
        cylinders();
        sensors();
        timers();
        active();
        commands();
        events();
        rightEvents();
        quiet();
        Script.end();
    }

    private static void setMethod() {
        Script.run("0 direct, 1 cascade, 2 stepper; returns the previous method", "setMethod(2) = 1; setMethod(0) = 2",
                "setMethod(0) = 0; setMethod(1) = 0; setMethod(1) = 1");
        Script.run("if method is out of its range", "setMethod(3) = IAE; setMethod(-1) = IAE",
                "setMethod(2147483647) = IAE",
                "setMethod(-2147483648) = IAE; setMethod(2) = 1; setMethod(3) = IAE; setMethod(-1) = IAE",
                "setMethod(0) = 2");
        Script.run("a refused method is no rest", "read A+A- = 2; ticks(5); setMethod(3) = IAE; setMethod(-1) = IAE",
                "time() = 5; position(0) = 1; events() = 2");
    }

    private static void setStroke() {
        for (int c = 0; c < 6; c++) {
            String call = "setStroke(" + c + ", ";
            Script.run("stroke: 1 to 20; returns the previous stroke", call + "1) = 3", call + "20) = 1",
                call + "2) = 20",
                    call + "19) = 2", call + "19) = 19");
            Script.run("IllegalArgumentException if stroke is out of its range", call + "0) = IAE", call + "21) = IAE",
                    call + "-1) = IAE", call + "2147483647) = IAE", call + "-2147483648) = IAE", call + "3) = 3");
        }
        Script.run("IndexOutOfBoundsException if cylinder is out of its range, before the other one",
                "setStroke(6, 3) = INDEX",
                "setStroke(-1, 3) = INDEX; setStroke(6, 0) = INDEX; setStroke(-1, 21) = INDEX",
                "setStroke(2147483647, 0) = INDEX",
                "setStroke(-2147483648, 21) = INDEX; setStroke(5, 3) = 3; setStroke(0, 3) = 3");
        Script.run("a refused stroke is no rest", "read A+A- = 2; ticks(5); setStroke(0, 0) = IAE",
                "setStroke(0, 21) = IAE",
                "setStroke(6, 3) = INDEX; time() = 5; position(0) = 1");
        Script.run("the stroke of this cylinder alone", "setStroke(0, 1); setStroke(5, 20); setStroke(1, 3) = 3",
                "setStroke(4, 3) = 3; setStroke(0, 1) = 1; setStroke(5, 20) = 20");
    }

    private static void setStart() {
        Script.run("Returns true if it was on before", "setStart(true) = true; setStart(false) = true",
                "setStart(false) = false",
                "setStart(true) = false; setStart(true) = true");
    }

    private static void setFault() {
        for (int c = 0; c < 6; c++) {
            String call = "setFault(" + c + ", ";
            Script.run("kind: 0 to 4; returns true if the cylinder had this fault before", call + "0, true) = false",
                    call + "4, true) = false", call + "0, true) = true", call + "1, false) = false",
                call + "3, true) = false",
                    call + "4, false) = true", call + "4, false) = false", call + "0, false) = true",
                call + "3, true) = true");
            Script.run("IllegalArgumentException if kind is out of its range", call + "-1, true) = IAE",
                call + "5, true) = IAE",
                    call + "5, false) = IAE", call + "2147483647, true) = IAE", call + "-2147483648, false) = IAE");
        }
        Script.run("of this cylinder alone", "setFault(2, 3, true); setFault(1, 3, true) = false",
                "setFault(3, 3, true) = false",
                "setFault(2, 2, true) = false; setFault(2, 4, true) = false; setFault(2, 3, true) = true");
        Script.run("IndexOutOfBoundsException if cylinder is out of its range, before the other one",
                "setFault(6, 0, true) = INDEX; setFault(-1, 0, true) = INDEX; setFault(6, 5, true) = INDEX",
                "setFault(-1, -1, false) = INDEX; setFault(2147483647, 5, true) = INDEX",
                "setFault(-2147483648, 0, true) = INDEX",
                "setFault(32, 0, true) = INDEX; setFault(5, 0, true) = false; setFault(0, 0, true) = false");
    }

    private static void rest() {
        Script.run("Returns the time before", "rest() = 0; read A+A- = 2; rest() = 0; ticks(1); rest() = 1; rest() = 0",
                "ticks(5000); ticks(1); rest() = 5001; time() = 0");
    }

    private static void ticks() {
        Script.run("n: 0 to 5000", "read A+A- = 2; ticks(0) = 0; time() = 0; ticks(5000) = 1667; time() = 5000",
                "ticks(4999)",
                "time() = 9999; ticks(5001) = IAE; ticks(-1) = IAE; ticks(2147483647) = IAE; ticks(-2147483648) = IAE");
        for (int method = 0; method < 3; method++) {
            Script.unchanged("no tick passes", "setMethod(" + method + "); read A+T2A- = 3; ticks(4)", "ticks(0)");
            Script.unchanged("no tick passes at rest", "setMethod(" + method + "); read A+T2A- = 3", "ticks(0)");
        }
        Script.run("Returns how many events happened: in this call alone", "read (A+B+)(A-B-) = 2; ticks(1) = 2",
                "ticks(2) = 0",
                "ticks(1) = 2; ticks(6) = 4; events() = 8; ticks(0) = 0");
        Script.run("IllegalArgumentException if n is out of its range, before the other one", "ticks(-1) = IAE",
                "ticks(5001) = IAE; ticks(2147483647) = IAE; ticks(-2147483648) = IAE");
        Script.run("IllegalStateException if there is no sequence", "ticks(0) = ISE; ticks(1) = ISE; ticks(5000) = ISE",
                "read A+ = -3; ticks(1) = ISE; time() = 0");
    }

    /** Many ticks at once lead where the same ticks one by one lead, moving or jammed. */
    private static void manyTicks() {
        String[] settings = {"", "setFault(0, 3, true);", "setFault(0, 0, true);", "setStart(false);",
                "setFault(1, 1, true);"};
        for (int method = 0; method < 3; method++) {
            for (String setting : settings) {
                String set = "setMethod(" + method + ");" + setting + "read A+T7B+B-T2A- = 6;";
                Script.same("Lets ticks pass", set + "ticks(200)", set + Script.times(200, "ticks(1)"));
                Script.same("Lets ticks pass", set + "ticks(200)", set + "ticks(199); ticks(0); ticks(1)");
            }
        }
        // Typing and reading are 5 calls, and the two last ones make it 512.
        Script.run("An object is used for at most 512 calls", "read A+A- = 2", Script.times(505, "ticks(5000)"),
                "time() = 2525000; events() = 841667");
        Script.run("An object is used for at most 512 calls: a jam", "setMethod(0); read A+B+B-A- = 4",
                Script.times(500, "ticks(5000)"), "time() = 2500000; quiet() = 2500000");
    }

    private static void cylinders() {
        for (String name : new String[] {"position", "isOut", "commands"}) {
            Script.run("if cylinder is out of its range", name + "(0);" + name + "(5);" + name + "(6) = INDEX",
                    name + "(-1) = INDEX;" + name + "(2147483647) = INDEX",
                    name + "(-2147483648) = INDEX;" + name + "(32) = INDEX",
                    "read A+A- = 2; ticks(1);" + name + "(0);" + name + "(5);" + name + "(6) = INDEX",
                    name + "(-1) = INDEX");
        }
        for (int c = 0; c < 6; c++) {
            char letter = (char) ('A' + c);
            int other = c < 5 ? c + 1 : 0;
            Script.run("cylinder: 0 to 5", "read " + letter + "+" + letter + "- = 2; ticks(2); position(" + c + ") = 2",
                    "position(" + other + ") = 0; isOut(" + c + ") = true; isOut(" + other + ") = false",
                    "commands(" + c + ") = 1",
                    "commands(" + other + ") = 0; eventMove(0) = " + (2 * c + 1) + "; sensor(" + c + ", 0) = false",
                    "sensor(" + other + ", 0) = true; ticks(2); eventMove(0) = " + 2 * c);
        }
        Script.run("Tells whether the valve of a cylinder is at +, not where it is", "read A+A- = 2; ticks(1)",
                "isOut(0) = true",
                "position(0) = 1; ticks(3); isOut(0) = false; position(0) = 2");
    }

    private static void sensors() {
        Script.run("if cylinder or sensor is out of its range", "sensor(0, 0) = true; sensor(0, 1) = false",
                "sensor(5, 1) = false",
                "sensor(0, 2) = INDEX; sensor(0, -1) = INDEX; sensor(6, 0) = INDEX; sensor(-1, 1) = INDEX",
                "sensor(6, 2) = INDEX",
                "sensor(0, 2147483647) = INDEX; sensor(0, -2147483648) = INDEX; sensor(2147483647, 0) = INDEX",
                "sensor(-2147483648, 0) = INDEX; read A+A- = 2; ticks(3); sensor(0, 1) = true; sensor(0, 2) = INDEX");
        Script.run("Tells how a sensor would be read now", "read A+A- = 2; ticks(3); sensor(0, 1) = true",
                "setFault(0, 3, true)",
                "sensor(0, 1) = false; ticks(1) = 0; setFault(0, 3, false); sensor(0, 1) = true; ticks(1) = 1",
                "sensor(0, 1) = false");
    }

    private static void timers() {
        Script.run("if there is no such step", "timer(0) = INDEX; read A+T2A- = 3; timer(0) = 0; timer(2) = 0",
                "timer(3) = INDEX",
                "timer(-1) = INDEX; timer(16) = INDEX; timer(2147483647) = INDEX; timer(-2147483648) = INDEX",
                "read " + "A+A-".repeat(7) + "T1T2 = 16; timer(15) = 0; timer(16) = INDEX",
                "read A+A- = 2; timer(2) = INDEX");
        Script.run("0 if the step is not a pause", "read A+T9A- = 3; ticks(6); timer(0) = 0; timer(1) = 3",
                "timer(2) = 0");
        for (int method = 0; method < 3; method++) {
            Script.run("0 if the step is not a pause, while its commands are on",
                "setMethod(" + method + "); read A+T1A- = 3",
                    "ticks(1) = 1; commands(0) = 1; timer(0) = 0; ticks(1); timer(0) = 0; ticks(3) = 1",
                "commands(0) = 2",
                    "timer(2) = 0; ticks(1); timer(2) = 0");
        }
        Script.run("the timer of the sixteenth step",
                "setMethod(2); setStroke(0, 1); read T1" + "A+A-".repeat(7) + "T2 = 16",
                "ticks(15); active() = 14; timer(0) = 0; timer(15) = 0; ticks(1); timer(15) = 1; ticks(1)",
                "timer(15) = 2");
    }

    private static void active() {
        Script.run("-1 if there is no sequence", "active() = -1; setMethod(0); active() = -1; setMethod(2)",
                "active() = -1",
                "setMethod(1); active() = -1; rest(); active() = -1");
        Script.run("-1 for the direct circuit", "setMethod(0); read A+A-A+A- = 4; active() = -1; ticks(5)",
                "active() = -1");
        Script.run("-1 if no step is active", "setMethod(2); read A+A- = 2; active() = -1; ticks(1); active() = 0",
                "ticks(6)",
                "active() = -1");
        Script.run("the active group of the cascade", "read A+A- = 2; active() = 1; setMethod(0); active() = -1",
                "setMethod(1)",
                "active() = 1");
    }

    private static void commands() {
        Script.run("0 for none (also if there was no tick since the rest)", "commands(0) = 0; read A+A- = 2",
                "commands(0) = 0",
                "ticks(1); commands(0) = 1; rest(); commands(0) = 0; ticks(0); commands(0) = 0");
        Script.run("1 if only + was on, 2 if only - was on", "read A+A- = 2; ticks(3); commands(0) = 1; ticks(1)",
                "commands(0) = 2");
        Script.run("3 for both", "setMethod(0); read A+B+B-A- = 4; ticks(1); commands(0) = 3; commands(1) = 0");
        Script.run("in the latest tick: what is set behind it does not count", "read A+A- = 2; ticks(1)",
                "setFault(0, 4, true)",
                "setStart(false); commands(0) = 1; ticks(0); commands(0) = 1; ticks(1); commands(0) = 2");
    }

    private static void events() {
        Script.run("Counts the events since the rig was brought to rest", "events() = 0; read A+A- = 2",
                "events() = 0; ticks(3)",
                "events() = 1; ticks(1); events() = 2; rest(); events() = 0");
        for (String name : new String[] {"eventTime", "eventMove"}) {
            Script.run("if i is negative",
                name + "(-1) = INDEX;" + name + "(-2147483648) = INDEX; read A+A- = 2; ticks(4)",
                    name + "(-1) = INDEX;" + name + "(0)");
            Script.run("-1 if there is no such event", name + "(0) = -1;" + name + "(2147483647) = -1; read A+A- = 2",
                    name + "(0) = -1; ticks(4);" + name + "(2) = -1;" + name + "(39) = -1",
                    name + "(2147483647) = -1");
            Script.run("-1 if it is not kept",
                FAST, "ticks(100);" + name + "(40) = -1;" + name + "(41) = -1;" + name + "(99) = -1",
                    name + "(100) = -1;" + name + "(80) = -1;" + name + "(2147483647) = -1");
        }
        Script.run("0 for the latest event, 1 for the one before it, and so on", FAST, "ticks(3); eventTime(0) = 2",
                "eventTime(1) = 1; eventTime(2) = 0; eventMove(0) = 1; eventMove(1) = 0; eventMove(2) = 1",
                "eventTime(3) = -1");
    }

    private static void rightEvents() {
        Script.run("Counts the right events", "rightEvents() = 0; cycles() = 0; read A+A- = 2; rightEvents() = 0",
                "ticks(5000)",
                "rightEvents() = 1667; events() = 1667; cycles() = 833");
    }

    private static void quiet() {
        Script.run("the time, if there was no such tick since the rest", "quiet() = 0; read A+A- = 2",
                "setStart(false); quiet() = 0",
                "ticks(1); quiet() = 1; ticks(5000); quiet() = 5001; rest(); quiet() = 0");
        Script.run("the latest tick in which a position or a valve changed: that tick itself", "read A+T9A- = 3",
                "ticks(1)",
                "quiet() = 0; ticks(2); quiet() = 0; ticks(1); quiet() = 1; ticks(1); quiet() = 2");
        Script.run("a valve alone", "setFault(0, 0, true); read A+A- = 2; ticks(1); quiet() = 0; ticks(1)",
                "quiet() = 1");
        Script.run("a position alone", "setMethod(2); read A+A- = 2; ticks(3); quiet() = 0; events() = 1");
        Script.run("a timer is neither", "setMethod(2); read A+T9A- = 3; ticks(3); quiet() = 0; ticks(4)",
                "timer(1) = 4; quiet() = 4");
        Script.run("nor is what is active", "setMethod(2); setFault(0, 0, true); setFault(0, 4, true)",
                "read A+T1A- = 3; ticks(1)",
                "active() = 0; ticks(1); active() = 1; quiet() = 1");
    }
}
