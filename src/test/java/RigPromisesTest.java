/** Promises 16 to 34: the rig, tick by tick, and its events. */
public final class RigPromisesTest {
    private static final String IAE = "throws IllegalArgumentException";
    private static final String ISE = "throws IllegalStateException";
    private static final String INDEX = "throws IndexOutOfBoundsException";
    private static final String AT_REST = "time() = 0; events() = 0; rightEvents() = 0; cycles() = 0; quiet() = 0;"
            + " position(0) = 0; isOut(0) = false; commands(0) = 0; eventTime(0) = -1; eventMove(0) = -1;"
            + " sensor(0, 0) = true;";

    public static void main(String[] args) {
        setMethod();
        setStroke();
        setStart();
        setFault();
        rest();
        ticks();
        directTicks();
        cascadeTicks();
        stepperTicks();
        startInTheMiddle();
        positionsAndSensors();
        timers();
        active();
        commands();
        events();
        rightEvents();
        quiet();
        Script.end();
    }

    private static void setMethod() {
        Script.run("promise 16", "setMethod(0) = 1; setMethod(2) = 0; setMethod(2) = 2; setMethod(1) = 2",
                "setMethod(3) = " + IAE, "setMethod(-1) = " + IAE, "setMethod(2147483647) = " + IAE,
                "setMethod(-2147483648) = " + IAE, "setMethod(1) = 1");
        Script.run("promise 16, to rest", "read A+A- = 2; ticks(4) = 2; setMethod(1) = 1", AT_REST, "active() = 1");
        Script.run("promise 16, a refused one is no rest", "read A+A- = 2; ticks(4) = 2", "setMethod(3) = " + IAE,
                "time() = 4; position(0) = 2");
    }

    private static void setStroke() {
        Script.run("promise 17", "setStroke(0, 1) = 3; setStroke(0, 20) = 1; setStroke(0, 3) = 20; setStroke(5, 9) = 3",
                "setStroke(5, 9) = 9", "setStroke(6, 3) = " + INDEX, "setStroke(-1, 3) = " + INDEX,
                "setStroke(0, 0) = " + IAE, "setStroke(0, 21) = " + IAE, "setStroke(0, -2147483648) = " + IAE,
                "setStroke(0, 2147483647) = " + IAE, "setStroke(6, 0) = " + INDEX, "setStroke(-1, 21) = " + INDEX,
                "setStroke(0, 3) = 3; setStroke(1, 3) = 3");
        Script.run("promise 17, to rest", "read A+A- = 2; ticks(4) = 2; setStroke(3, 5) = 3", AT_REST, "active() = 1");
        Script.run("promise 17, a refused one is no rest", "read A+A- = 2; ticks(2)", "setStroke(0, 0) = " + IAE,
                "setStroke(6, 5) = " + INDEX, "time() = 2; position(0) = 2");
        Script.run("promise 17, what it does", "setStroke(0, 5); read A+A- = 2; ticks(5) = 1; position(0) = 5",
                "sensor(0, 1) = true; ticks(1) = 1; position(0) = 4; ticks(3) = 0; sensor(0, 0) = false; ticks(1) = 0",
                "position(0) = 0; sensor(0, 0) = true; setStroke(0, 1) = 5; ticks(1) = 1; sensor(0, 1) = true",
                "position(0) = 1; ticks(1) = 1; position(0) = 0");
    }

    private static void setStart() {
        Script.run("promise 18", "setStart(true) = true; setStart(false) = true; setStart(false) = false",
                "setStart(true) = false; setStart(true) = true");
        for (int method = 0; method < 3; method++) {
            // The cascade's last group is active at rest, and its first step keeps its command on.
            int waiting = method == 1 ? 2 : 0;
            Script.run("promise 18, method " + method, "setMethod(" + method + ")",
                    "read A+A- = 2; setStart(false) = true; ticks(20) = 0; time() = 20; quiet() = 20",
                    "commands(0) = " + waiting,
                    "setStart(true) = false; time() = 20; ticks(1) = 1; eventTime(0) = 20; eventMove(0) = 1",
                    "setStart(false) = true; ticks(40) = 1; eventMove(0) = 0; cycles() = 1; position(0) = 0");
        }
    }

    private static void setFault() {
        Script.run("promise 19", "setFault(0, 0, true) = false; setFault(0, 0, true) = true",
                "setFault(0, 0, false) = true; setFault(0, 0, false) = false; setFault(5, 4, true) = false",
                "setFault(5, 3, true) = false; setFault(4, 4, true) = false; setFault(5, 4, false) = true",
                "setFault(4, 4, false) = true; setFault(5, 3, false) = true",
                "setFault(6, 0, true) = " + INDEX, "setFault(-1, 0, true) = " + INDEX,
                "setFault(0, 5, true) = " + IAE, "setFault(0, -1, true) = " + IAE, "setFault(6, 5, true) = " + INDEX,
                "setFault(-1, -1, false) = " + INDEX, "setFault(2147483647, 0, true) = " + INDEX,
                "setFault(0, -2147483648, true) = " + IAE);
        Script.run("promise 19, no rest", "read A+A- = 2; ticks(2) = 1; setFault(0, 0, true) = false; time() = 2",
                "position(0) = 2; ticks(5) = 0; position(0) = 2; setFault(0, 0, false) = true; ticks(1) = 0",
                "position(0) = 3; ticks(1) = 1; position(0) = 2");
    }

    private static void rest() {
        Script.run("promise 20", "rest() = 0; read A+A- = 2; ticks(17); rest() = 17", AT_REST, "rest() = 0",
                "active() = 1; steps() = 2; ticks(4) = 2");
        Script.run("promise 20, timers", "read A+T9A- = 3; ticks(5); timer(1) = 2; rest() = 5; timer(1) = 0");
        Script.run("promise 20, what stays", "read A+A- = 2; setMethod(2); setStroke(0, 4); setStroke(1, 6)",
                "setFault(1, 2, true); ticks(6); setStart(false) = true; rest() = 6; setStart(true) = false",
                "setFault(1, 2, true) = true; ticks(4) = 1; position(0) = 4; active() = 0; ticks(1) = 1; active() = 1",
                "setStroke(1, 3) = 6; setStroke(0, 3) = 4; setMethod(1) = 2");
        Script.run("promise 20, the text stays", Script.typed("A+A-"), "rest() = 0; readSequence() = 2");
        Script.run("promise 20, the first step is due again", "setMethod(0); read A+A-B+B- = 4; ticks(5)",
                "rightEvents() = 1; rest() = 5; rightEvents() = 0; ticks(1) = 2; rightEvents() = 1");
    }

    private static void ticks() {
        Script.run("promise 21", "read A+A- = 2; ticks(0) = 0; time() = 0; ticks(1) = 1; ticks(2) = 0; ticks(1) = 1",
                "ticks(5000) = 1666; time() = 5004", "ticks(5001) = " + IAE, "ticks(-1) = " + IAE,
                "ticks(2147483647) = " + IAE, "ticks(-2147483648) = " + IAE, "time() = 5004");
        Script.run("promise 21 without a sequence", "ticks(0) = " + ISE, "ticks(1) = " + ISE, "ticks(5000) = " + ISE,
                "ticks(-1) = " + IAE, "ticks(5001) = " + IAE);
        Script.run("promise 22", "time() = 0; read A+A- = 2; time() = 0; ticks(3); time() = 3; ticks(4); time() = 7",
                "works(1); suspect(0); effect(0, 0, 9); time() = 7; rest(); time() = 0");
        Script.run("promises 21, 22: ticks in which nothing moves count too",
                "setMethod(0); read A+B+B-A- = 4; ticks(5000) = 0; time() = 5000; quiet() = 5000; commands(0) = 3");
    }

    private static void directTicks() {
        Script.run("direct", "setMethod(0); read A+A- = 2; ticks(1) = 1; position(0) = 1; commands(0) = 1",
                "isOut(0) = true; ticks(1) = 0; commands(0) = 0; isOut(0) = true; position(0) = 2; ticks(1) = 0",
                "position(0) = 3; ticks(1) = 1; commands(0) = 2; isOut(0) = false; position(0) = 2; eventTime(0) = 3",
                "ticks(2) = 0; position(0) = 0; ticks(1) = 1; eventTime(0) = 6; eventMove(0) = 1; active() = -1");
        Script.run("direct, a pause", "setMethod(0); read A+T3A- = 3; ticks(3) = 1; timer(1) = 0; ticks(1) = 0",
                "timer(1) = 1; ticks(2) = 0; timer(1) = 3; isOut(0) = true; ticks(1) = 1; timer(1) = 4",
                "isOut(0) = false; position(0) = 2; ticks(1) = 0; timer(1) = 0; commands(0) = 2; ticks(1) = 0",
                "position(0) = 0; commands(0) = 0; ticks(1) = 1; eventTime(0) = 9");
        Script.run("direct, a pause at the beginning waits for the start signal", "setMethod(0); read T2A+A- = 3",
                "setStart(false); ticks(5) = 0; timer(0) = 0; setStart(true); ticks(2) = 0; timer(0) = 2; ticks(1) = 1",
                "timer(0) = 3; eventTime(0) = 7");
        Script.run("direct, a step of several moves waits for all of them", "setMethod(0); setStroke(1, 5)",
                "read (A+B+)C+(A-B-)C- = 4; ticks(5) = 2; position(0) = 3; position(1) = 5; isOut(2) = false",
                "ticks(1) = 1; isOut(2) = true; eventMove(0) = 5; eventTime(0) = 5");
    }

    private static void cascadeTicks() {
        Script.run("cascade", "read A+A- = 2; active() = 1; commands(0) = 0; ticks(1) = 1; active() = 0",
                "commands(0) = 1; ticks(2) = 0; commands(0) = 1; position(0) = 3; active() = 0; ticks(1) = 1",
                "active() = 1; commands(0) = 2; position(0) = 2; eventTime(0) = 3; ticks(2) = 0; active() = 1",
                "ticks(1) = 1; active() = 0; eventTime(0) = 6");
        Script.run("cascade, the steps of a group one after the other", "read A+B+B-A- = 4; ticks(3) = 1",
                "position(0) = 3; commands(1) = 0; active() = 0; ticks(1) = 1; commands(0) = 1; commands(1) = 1",
                "ticks(2) = 0; position(1) = 3; ticks(1) = 1; active() = 1; commands(0) = 0; commands(1) = 2",
                "ticks(3) = 1; commands(0) = 2; commands(1) = 2; eventMove(0) = 0; eventTime(0) = 9");
        Script.run("cascade, the first cut behind step 0", "read A+B+A-C+B-C- = 6; active() = 1; ticks(1) = 1",
                "active() = 1; eventMove(0) = 1; commands(1) = 2; commands(2) = 2; ticks(3) = 1; active() = 0",
                "eventMove(0) = 3; eventTime(0) = 3");
        Script.run("cascade, step 0 within a group needs the start signal", "read A+B+A-C+B-C- = 6; setStart(false)",
                "ticks(9) = 0; active() = 1; commands(0) = 0; commands(2) = 2; setStart(true); ticks(1) = 1",
                "commands(0) = 1; setStart(false); ticks(100) = 5; cycles() = 1; active() = 1; commands(0) = 0");
        Script.run("cascade, a pause runs on while its group is active", "read A+T3A- = 3; ticks(4); timer(1) = 1",
                "ticks(2) = 0; timer(1) = 3; ticks(1) = 1; timer(1) = 4; ticks(2) = 0; timer(1) = 6; position(0) = 0",
                "ticks(1) = 1; timer(1) = 0; active() = 0");
    }

    private static void stepperTicks() {
        Script.run("stepper", "setMethod(2); read A+A- = 2; active() = -1; ticks(1) = 1; active() = 0",
                "commands(0) = 1; ticks(2) = 0; active() = 0; commands(0) = 1; position(0) = 3; ticks(1) = 1",
                "active() = 1; commands(0) = 2; ticks(2) = 0; position(0) = 0; active() = 1; ticks(1) = 0",
                "active() = -1; commands(0) = 0; ticks(1) = 1; active() = 0; eventTime(0) = 7");
        Script.run("stepper, a pause", "setMethod(2); read A+T3A- = 3; ticks(4) = 1; active() = 1; timer(1) = 1",
                "commands(0) = 0; ticks(2) = 0; timer(1) = 3; active() = 1; ticks(1) = 1; timer(1) = 0; active() = 2",
                "ticks(2) = 0; active() = 2; ticks(1) = 0; active() = -1");
        Script.run("stepper, one change in a tick", "setMethod(2); read A+T1T1A- = 4; ticks(4); active() = 1",
                "timer(1) = 1; ticks(1); active() = 2; timer(1) = 0; timer(2) = 1; ticks(1) = 1; active() = 3");
        Script.run("stepper, one change in a tick even if the next step is complete",
                "setMethod(2); setFault(1, 4, true); read A+B+A-B- = 4; ticks(4) = 2; active() = 1; ticks(1) = 1",
                "active() = 2; eventMove(0) = 0");
    }

    private static void startInTheMiddle() {
        Script.run("the start signal, stepper", "setMethod(2); read A+A- = 2; ticks(1); setStart(false); ticks(30) = 1",
                "active() = -1; cycles() = 1; setStart(true); ticks(1) = 1; active() = 0");
        Script.run("the start signal, cascade", "read A+A- = 2; ticks(1); setStart(false); ticks(30) = 1; active() = 1",
                "setStart(true); ticks(1) = 1; active() = 0");
    }

    private static void positionsAndSensors() {
        Script.run("promise 23", "position(0) = 0; position(5) = 0", "position(6) = " + INDEX,
                "position(-1) = " + INDEX, "position(2147483647) = " + INDEX,
                "read F+F- = 2; ticks(2); position(5) = 2; position(0) = 0; ticks(1); position(5) = 3");
        Script.run("promise 24", "isOut(0) = false", "isOut(6) = " + INDEX, "isOut(-1) = " + INDEX,
                "isOut(-2147483648) = " + INDEX, "read B+B- = 2; ticks(1); isOut(1) = true; isOut(0) = false",
                "ticks(2); isOut(1) = true; ticks(1); isOut(1) = false");
        Script.run("promise 24, a stuck cylinder", "read A+A- = 2; setFault(0, 0, true); ticks(9) = 1; isOut(0) = true",
                "position(0) = 0");
        Script.run("promise 25", "sensor(0, 0) = true; sensor(0, 1) = false", "sensor(6, 0) = " + INDEX,
                "sensor(-1, 0) = " + INDEX, "sensor(0, 2) = " + INDEX, "sensor(0, -1) = " + INDEX,
                "sensor(0, -2147483648) = " + INDEX, "read A+A- = 2; ticks(1); sensor(0, 0) = false",
                "sensor(0, 1) = false; ticks(2); sensor(0, 1) = true; sensor(0, 0) = false; sensor(1, 0) = true");
        Script.run("promise 25, faults of sensor 0", "setFault(0, 1, true); sensor(0, 0) = false; sensor(1, 0) = true",
                "setFault(0, 2, true); sensor(0, 0) = false; setFault(0, 1, false); sensor(0, 0) = true",
                "sensor(0, 1) = false; setMethod(2); read A+A- = 2; ticks(2); sensor(0, 0) = true",
                "setFault(0, 2, false); sensor(0, 0) = false");
        Script.run("promise 25, faults of sensor 1", "setFault(3, 4, true); sensor(3, 1) = true; sensor(3, 0) = true",
                "sensor(2, 1) = false; setFault(3, 3, true); sensor(3, 1) = false; setFault(3, 4, false)",
                "read D+D- = 2; ticks(8) = 1; position(3) = 3; sensor(3, 1) = false; setFault(3, 3, false)",
                "sensor(3, 1) = true; ticks(1) = 1");
        Script.run("faults in the circuit", "setMethod(2); read A+A- = 2; setFault(0, 4, true); ticks(2) = 2",
                "position(0) = 0; rest(); setFault(0, 3, true); ticks(9) = 1; position(0) = 3");
    }

    private static void timers() {
        Script.run("promise 26", "timer(0) = " + INDEX, "read A+T3A- = 3; timer(1) = 0; ticks(5); timer(1) = 2",
                "timer(0) = 0; timer(2) = 0", "timer(3) = " + INDEX, "timer(-1) = " + INDEX,
                "timer(2147483647) = " + INDEX);
        Script.run("promise 26, not above 60; both commands on", "setMethod(0); setFault(0, 4, true); read A+T3A- = 3",
                "ticks(1) = 1; timer(1) = 1; ticks(2) = 0; timer(1) = 3; ticks(1) = 1; timer(1) = 4; ticks(2) = 0",
                "position(0) = 0; ticks(1) = 0; commands(0) = 3; isOut(0) = false; ticks(52) = 0; timer(1) = 59",
                "ticks(1); timer(1) = 60; ticks(1); timer(1) = 60; ticks(39) = 0; timer(1) = 60; time() = 100",
                "quiet() = 94; events() = 2");
        Script.run("promise 26, a pause of 60", "setMethod(2); read A+T60A- = 3; ticks(63) = 1; timer(1) = 60",
                "ticks(1) = 1; timer(1) = 0; eventTime(0) = 63");
    }

    private static void active() {
        Script.run("promise 27", "active() = -1; setMethod(2); active() = -1; setMethod(0); active() = -1",
                "read A+A-A+A- = 4; active() = -1; ticks(1); active() = -1; setMethod(1); active() = 3; ticks(1)",
                "active() = 0; setMethod(2); active() = -1; ticks(1); active() = 0");
    }

    private static void commands() {
        Script.run("promise 28", "commands(0) = 0", "commands(6) = " + INDEX, "commands(-1) = " + INDEX,
                "commands(2147483647) = " + INDEX, "read A+A- = 2; ticks(1); commands(0) = 1; commands(1) = 0",
                "ticks(3); commands(0) = 2; rest(); commands(0) = 0");
        Script.run("promise 28, both", "setMethod(0); read A+B+B-A- = 4; ticks(1) = 0; commands(0) = 3",
                "commands(1) = 0; setStart(false); ticks(1) = 0; commands(0) = 2; setMethod(0); commands(0) = 0");
    }

    private static void events() {
        String fast = "setMethod(0); setStroke(0, 1); read A+A- = 2;";
        Script.run("promise 29", fast, "events() = 0; ticks(50) = 50; events() = 50; ticks(0) = 0; events() = 50",
                "ticks(100) = 100; events() = 150; rest(); events() = 0");
        Script.run("promise 30", fast, "eventTime(0) = -1; ticks(2); eventTime(0) = 1; eventTime(1) = 0",
                "eventTime(2) = -1; ticks(38); eventTime(39) = 0; eventTime(40) = -1; ticks(1); eventTime(0) = 40",
                "eventTime(39) = 1; eventTime(40) = -1; ticks(9); eventTime(39) = 10; eventTime(40) = -1",
                "eventTime(2147483647) = -1", "eventTime(-1) = " + INDEX, "eventTime(-2147483648) = " + INDEX);
        Script.run("promise 31", fast, "eventMove(0) = -1; ticks(2); eventMove(0) = 0; eventMove(1) = 1",
                "eventMove(2) = -1; ticks(49); eventMove(0) = 1; eventMove(1) = 0; eventMove(39) = 0",
                "eventMove(40) = -1; eventMove(2147483647) = -1", "eventMove(-1) = " + INDEX,
                "eventMove(-2147483648) = " + INDEX);
        StringBuilder kept = new StringBuilder();
        for (int i = 0; i < 40; i++) {
            kept.append("eventTime(" + i + ") = " + (69 - i) + "; eventMove(" + i + ") = " + i % 2 + ";");
        }
        Script.run("promises 30, 31: each of the latest 40", fast, "ticks(70) = 70", kept.toString());
        Script.run("promises 30, 31: several in a tick", "read (F+B+D+)(F-D-B-) = 2; ticks(1) = 3",
                "eventMove(2) = 3",
                "eventMove(1) = 7; eventMove(0) = 11; eventTime(0) = 0; eventTime(2) = 0; ticks(3) = 3",
                "eventMove(2) = 2; eventMove(1) = 6; eventMove(0) = 10; eventTime(1) = 3");
        Script.run("promises 30, 31 without a sequence", "eventTime(0) = -1; eventMove(0) = -1",
                "eventTime(-1) = " + INDEX, "eventMove(-1) = " + INDEX);
    }

    private static void rightEvents() {
        Script.run("promises 32, 33", "rightEvents() = 0; cycles() = 0; read A+A- = 2; ticks(1); rightEvents() = 1",
                "cycles() = 0; ticks(3); rightEvents() = 2; cycles() = 1; ticks(3); rightEvents() = 3; cycles() = 1",
                "ticks(3); cycles() = 2; rest(); rightEvents() = 0; cycles() = 0");
        Script.run("promises 32, 33: a wrong event ends it", "setMethod(0); read A+A-B+B- = 4; ticks(1) = 2",
                "eventMove(0) = 3; rightEvents() = 1; ticks(3) = 2; rightEvents() = 1; ticks(50); rightEvents() = 1",
                "cycles() = 0");
        Script.run("promises 32, 33: parallel moves and pauses", "setStroke(1, 5)",
                "read T1(B+A+)T2B-A-T1 = 6; ticks(2) = 0; ticks(1) = 2; rightEvents() = 2; cycles() = 0",
                "ticks(6) = 0; ticks(1) = 1; eventMove(0) = 2; ticks(4) = 0; cycles() = 0; ticks(1) = 1",
                "eventMove(0) = 0; cycles() = 1; ticks(87); events() = 24; rightEvents() = 24; cycles() = 6");
        Script.run("promise 32: the other direction is wrong", "setMethod(2); setFault(0, 0, true); read A+B+A-B- = 4",
                "ticks(1) = 1; rightEvents() = 1; ticks(9) = 0; rightEvents() = 1; cycles() = 0");
    }

    private static void quiet() {
        Script.run("promise 34", "quiet() = 0; read A+T9A- = 3; quiet() = 0; ticks(1); quiet() = 0; ticks(2)",
                "quiet() = 0; ticks(1); quiet() = 1; ticks(8); quiet() = 9; ticks(1); quiet() = 0; ticks(2)",
                "position(0) = 0; quiet() = 0; rest(); quiet() = 0");
        Script.run("promise 34, never moved", "read A+A- = 2; setStart(false); ticks(7); quiet() = 7; ticks(1)",
                "quiet() = 8; rest(); quiet() = 0");
        Script.run("promise 34, a valve alone", "read A+A- = 2; setFault(0, 0, true); ticks(1); quiet() = 0; ticks(8)",
                "quiet() = 8");
    }
}
