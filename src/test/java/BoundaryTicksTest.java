/**
 * The sentences of 'Circuits', 'Ticks', 'Right events', 'Faults' and 'Rest' that name a boundary case:
 * each title is the sentence, or its part, that would be broken.
 */
public final class BoundaryTicksTest {
    /** One event in each tick, the first one at the time 0. */
    private static final String FAST = "setMethod(0); setStroke(0, 1); read A+A- = 2;";
    /** Every step is complete all the time. */
    private static final String ALWAYS_COMPLETE = "setFault(0, 2, true); setFault(0, 4, true); read A+A-A+A- = 4;";

    public static void main(String[] args) {
        startSignal();
        direct();
        cascadeAtFirst();
        cascadeAroundTheRing();
        cascadeStepZero();
        cascadeWithinAGroup();
        stepper();
        oneChangeInATick();
        strokes();
        valves();
        timers();
        events();
        latestForty();
        dueMoves();
        wrongEvents();
        cycles();
        faultOfPosition();
        faultsOfSensors();
        rest();
        whatStays();
        Script.end();
    }

    private static void startSignal() {
        Script.run("There is a start signal, initially on", "setStart(false) = true; setStart(true) = false");
        Script.run("There is a start signal, initially on: without a call", "read A+A- = 2; ticks(1) = 1");
    }

    private static void direct() {
        Script.run("Direct: for step 0, the start signal must also be on", "setMethod(0); read A+A- = 2",
                "setStart(false)",
                "ticks(9) = 0; commands(0) = 0; setStart(true); ticks(1) = 1; commands(0) = 1");
        Script.run("Direct: only for step 0", "setMethod(0); read A+B+A-B- = 4; ticks(1) = 1; setStart(false)",
                "ticks(99) = 3",
                "cycles() = 1; commands(0) = 0; position(1) = 0");
        Script.run("Direct: the timer of a pause in step 0 runs under the same condition", "setMethod(0)",
                "setStart(false)",
                "read T2A+A- = 3; ticks(9) = 0; timer(0) = 0; setStart(true); ticks(1); timer(0) = 1; setStart(false)",
                "ticks(1); timer(0) = 0; setStart(true); ticks(2) = 0; timer(0) = 2; ticks(1) = 1");
        Script.run("Direct: the timer of a pause behind step 0", "setMethod(0); read A+T3A- = 3; ticks(1)",
                "setStart(false)",
                "ticks(2); timer(1) = 0; ticks(1); timer(1) = 1; ticks(2); timer(1) = 3; ticks(1) = 1");
        Script.run("Direct: the commands of all moves of step i", "setMethod(0); read (A+C+F+)(A-C-F-) = 2",
                "ticks(1) = 3",
                "commands(0) = 1; commands(1) = 0; commands(2) = 1; commands(5) = 1");
    }

    private static void cascadeAtFirst() {
        Script.run("Cascade: one group is active, at first the last one", "read A+A- = 2; active() = 1",
                "read A+A-A+A- = 4; active() = 3; read A+A-C+C- = 4; active() = 1; read " + "A+A-".repeat(8) + " = 16",
                "active() = 15; ticks(1); active() = 0");
        Script.run("Cascade: the last group's first step is on before the start", "read A+A- = 2; setStart(false)",
                "ticks(1) = 0; commands(0) = 2; active() = 1");
    }

    private static void cascadeAroundTheRing() {
        Script.run("Cascade: the next group (group 0 after the last one)", "read A+A-A+A- = 4; ticks(1); active() = 0",
                "ticks(2); active() = 0; ticks(1); active() = 1; ticks(3); active() = 2; ticks(3); active() = 3",
                "ticks(2); active() = 3; ticks(1); active() = 0");
        Script.run("Cascade: if the first step of the next group is step 0, the start signal must also be on",
                "read A+A-A+A- = 4; setStart(false); ticks(9) = 0; active() = 3; setStart(true); ticks(1) = 1",
                "active() = 0",
                "setStart(false); ticks(3) = 1; active() = 1; ticks(3) = 1; active() = 2; ticks(3) = 1; active() = 3",
                "ticks(40) = 0; active() = 3; setStart(true); ticks(1) = 1; active() = 0");
    }

    private static void cascadeStepZero() {
        Script.run("Cascade: if i is step 0 and not the first step of the group, the start signal is on",
                "read A+A-C+C- = 4; setStart(false); ticks(9) = 0; commands(0) = 0; commands(2) = 2; setStart(true)",
                "ticks(1) = 1; commands(0) = 1; setStart(false); ticks(1) = 0; commands(0) = 0; isOut(0) = true");
        Script.run("Cascade: no start signal for a group whose first step is another", "read A+A-C+C- = 4",
                "ticks(3) = 1",
                "setStart(false); active() = 1; ticks(1) = 1; active() = 0; ticks(6) = 2; active() = 1",
                "eventMove(0) = 4",
                "eventTime(0) = 9; ticks(60) = 0; cycles() = 1; active() = 1");
        Script.run("Cascade: a pause in step 0 within a group", "read T9B+B-A+A- = 5; setStart(false); ticks(20) = 0",
                "timer(0) = 0; setStart(true); ticks(1); timer(0) = 1; setStart(false); ticks(1); timer(0) = 0",
                "setStart(true); ticks(9) = 0; timer(0) = 9; ticks(1) = 1; eventMove(0) = 3");
        Script.run("Cascade: step 0 is the first step of the group and stays on without the start signal",
                "read A+B+B-A- = 4; ticks(1) = 1; setStart(false); ticks(1); commands(0) = 1");
    }

    private static void cascadeWithinAGroup() {
        Script.run("Cascade: the first step of the group is on whatever its step before does", "read A+T3A- = 3",
                "ticks(7) = 2; timer(1) = 4; sensor(0, 1) = false; ticks(1); timer(1) = 5");
        Script.run("Cascade: another step is on if the step before it is complete", "read A+T2B+B-A- = 5; ticks(3) = 1",
                "timer(1) = 0; ticks(1); timer(1) = 1; commands(1) = 0; ticks(1); timer(1) = 2; commands(1) = 0",
                "ticks(1) = 1",
                "commands(1) = 1; timer(1) = 3");
        Script.run("Cascade: for each step of the active group alone", "setMethod(1); read A+B+B-A- = 4; ticks(1)",
                "commands(0) = 1; commands(1) = 0; ticks(6) = 2; commands(0) = 0; commands(1) = 2");
    }

    private static void stepper() {
        Script.run("Stepper: one step is active or none, at first none", "setMethod(2); read A+A- = 2; active() = -1",
                "setStart(false); ticks(9) = 0; active() = -1; commands(0) = 0");
        Script.run("Stepper: if none is active and the start signal is on, step 0 becomes active",
                "setMethod(2); read A+A- = 2; setStart(false); ticks(1); active() = -1; setStart(true); ticks(1) = 1",
                "active() = 0; setStart(false); ticks(3) = 1; active() = 1");
        Script.run("Stepper: the next step becomes active, or none after the last one", "setMethod(2)",
                "read A+A- = 2; ticks(3); active() = 0; ticks(1); active() = 1; ticks(2); active() = 1; ticks(1) = 0",
                "active() = -1; commands(0) = 0; ticks(1) = 1; active() = 0");
        Script.run("Stepper: none after the last one, a pause", "setMethod(2); read A+A-T2 = 3; ticks(7) = 2",
                "active() = 2",
                "timer(2) = 1; ticks(1); timer(2) = 2; active() = 2; ticks(1); active() = -1; timer(2) = 0",
                "ticks(1) = 1");
        Script.run("Stepper: the sixteenth step", "setMethod(2); setStroke(0, 1); read " + "A+A-".repeat(8) + " = 16",
                "ticks(15); active() = 14; ticks(1) = 1; active() = 15; ticks(1) = 0; active() = -1; ticks(1) = 1");
    }

    private static void oneChangeInATick() {
        Script.run("At most one of these changes happens in a tick: cascade", ALWAYS_COMPLETE,
                "ticks(1) = 1; active() = 0; ticks(1) = 1; active() = 1; ticks(1) = 1; active() = 2; ticks(1) = 1",
                "active() = 3; ticks(1) = 1; active() = 0");
        Script.run("At most one of these changes happens in a tick: stepper", "setMethod(2)", ALWAYS_COMPLETE,
                "ticks(1) = 1; active() = 0; ticks(1) = 1; active() = 1; ticks(1) = 1; active() = 2; ticks(1) = 1",
                "active() = 3; ticks(1) = 0; active() = -1; ticks(1) = 1; active() = 0");
    }

    private static void strokes() {
        Script.run("a stroke, 1 to 20 ticks: 1", "setStroke(0, 1); read A+A- = 2; ticks(1) = 1; position(0) = 1",
                "sensor(0, 1) = true; sensor(0, 0) = false; ticks(1) = 1; position(0) = 0; sensor(0, 0) = true",
                "ticks(1) = 1");
        Script.run("a stroke, 1 to 20 ticks: 20", "setStroke(0, 20); read A+A- = 2; ticks(19) = 1; position(0) = 19",
                "sensor(0, 1) = false; ticks(1) = 0; position(0) = 20; sensor(0, 1) = true; ticks(1) = 1",
                "position(0) = 19",
                "ticks(18) = 0; position(0) = 1; sensor(0, 0) = false; ticks(1) = 0; position(0) = 0; ticks(1) = 1");
        for (int c = 0; c < 6; c++) {
            Script.run("initially 3", "setStroke(" + c + ", 20) = 3");
        }
        String waiting = "setStroke(1, 20); read (A+B+)(A-B-) = 2;";
        Script.run("unless it is there already: the stroke", waiting, "ticks(3) = 2; position(0) = 3; ticks(1)",
                "position(0) = 3",
                "ticks(16); position(0) = 3; position(1) = 20; ticks(1) = 2; position(0) = 2; position(1) = 19");
        Script.run("unless it is there already: 0", waiting, "ticks(23); position(0) = 0; position(1) = 17; ticks(1)",
                "position(0) = 0; ticks(15); position(0) = 0; position(1) = 1; ticks(1); position(1) = 0");
        Script.run("The sensors are read before the positions change", "setStroke(0, 1); read A+B+A-B- = 4",
                "ticks(1) = 1",
                "sensor(0, 1) = true; isOut(1) = false; ticks(1) = 1; isOut(1) = true");
    }

    private static void valves() {
        Script.run("otherwise it stays: none is on, at -", "setMethod(0); read A+A- = 2; setStart(false); ticks(5) = 0",
                "commands(0) = 0; isOut(0) = false");
        Script.run("otherwise it stays: none is on, at +", "setMethod(0); read A+A- = 2; ticks(2) = 1; commands(0) = 0",
                "isOut(0) = true; position(0) = 2");
        Script.run("otherwise it stays: both are on, at -", "setMethod(0); read A+B+B-A- = 4; ticks(5) = 0",
                "commands(0) = 3",
                "isOut(0) = false; position(0) = 0");
        Script.run("otherwise it stays: both are on, at +", "setMethod(0); read A+B+B-A- = 4; setFault(1, 1, true)",
                "ticks(1) = 1; setFault(1, 1, false); setFault(0, 2, true); ticks(1) = 0; commands(0) = 3",
                "isOut(0) = true; position(0) = 2");
        Script.run("A command is on if it is on for at least one step", "setMethod(0); read A+B+B-B+B-A- = 6",
                "setFault(1, 1, true); ticks(4) = 2; commands(1) = 1; isOut(1) = true");
    }

    private static void timers() {
        String title = "Each timer that runs in this tick increases by 1 (but not above 60)";
        Script.run(title, "read A+T3A- = 3; ticks(7) = 2; setFault(0, 1, true)",
                "ticks(55) = 0; timer(1) = 59; ticks(1); timer(1) = 60; ticks(1); timer(1) = 60; ticks(5000)",
                "timer(1) = 60");
        Script.run(title + ": the time and quiet() go on", "read A+T3A- = 3; ticks(7) = 2; setFault(0, 1, true)",
                "ticks(5000) = 0; time() = 5007; quiet() = 4998; timer(1) = 60; setFault(0, 1, false); ticks(1) = 1");
        Script.run("all others become 0: cascade", "read A+T3A- = 3; ticks(9) = 2; timer(1) = 6; ticks(1)",
                "timer(1) = 0");
        Script.run("all others become 0: direct", "setMethod(0); read A+T3A- = 3; ticks(7); timer(1) = 4; ticks(1)",
                "timer(1) = 0");
        Script.run("all others become 0: stepper", "setMethod(2); read A+T3A- = 3; ticks(6); timer(1) = 3; ticks(1)",
                "timer(1) = 0");
        Script.run("Everything in 2 uses the timers as they are", "setMethod(2); read A+T1T1A- = 4; ticks(4)",
                "timer(1) = 1",
                "active() = 1; ticks(1); timer(2) = 1; active() = 2; ticks(1) = 1; active() = 3");
    }

    private static void events() {
        Script.run("If a valve goes to + or - and was not there, this is an event", "read A+A- = 2; ticks(1) = 1",
                "ticks(2) = 0",
                "commands(0) = 1; events() = 1; ticks(1) = 1; ticks(2) = 0; commands(0) = 2; events() = 2");
        Script.run("and was not there: at rest it is at -", "read A+A- = 2; setStart(false); ticks(3) = 0",
                "commands(0) = 2");
        Script.run("with the time: before it increases", "read A+A- = 2; ticks(1) = 1; eventTime(0) = 0; time() = 1");
        Script.run("several in the same tick are ordered by the cylinders", "read (F+A+C+)(C-F-A-) = 2; ticks(1) = 3",
                "eventMove(2) = 1; eventMove(1) = 5; eventMove(0) = 11; ticks(3) = 3; eventMove(2) = 0",
                "eventMove(1) = 4",
                "eventMove(0) = 10; eventTime(0) = 3; eventTime(1) = 3; eventTime(2) = 3; eventTime(3) = 0");
        Script.run("ordered by the cylinders, whatever their directions", "read B+(B-A+)A- = 3; ticks(4) = 3",
                "eventMove(1) = 1",
                "eventMove(0) = 2; eventTime(0) = 3; eventTime(1) = 3; eventMove(2) = 3");
    }

    private static void latestForty() {
        String title = "The latest 40 events are kept, all are counted";
        Script.run(title + ": 39", FAST, "ticks(39) = 39; events() = 39; eventTime(38) = 0; eventTime(39) = -1",
                "eventMove(38) = 1; eventMove(39) = -1");
        Script.run(title + ": 40", FAST, "ticks(40) = 40; events() = 40; eventTime(0) = 39; eventTime(39) = 0",
                "eventMove(39) = 1; eventTime(40) = -1; eventMove(40) = -1");
        Script.run(title + ": 41", FAST, "ticks(41) = 41; events() = 41; eventTime(0) = 40; eventTime(39) = 1",
                "eventMove(0) = 1; eventMove(39) = 0; eventTime(40) = -1; eventMove(40) = -1");
        Script.run(title + ": 79 to 81", FAST, "ticks(79) = 79; eventTime(39) = 39; eventMove(39) = 0; ticks(1)",
                "eventTime(0) = 79",
                "eventTime(39) = 40; eventMove(39) = 1; ticks(1); eventTime(0) = 80; eventTime(1) = 79",
                "eventTime(39) = 41",
                "eventTime(40) = -1; events() = 81");
        Script.run(title + ": a tick whose first events are not kept any more",
                "setMethod(0); setStroke(0, 1); setStroke(1, 1); setStroke(2, 1); read (A+B+C+)(A-B-C-) = 2",
                "ticks(13) = 39",
                "eventMove(38) = 1; eventMove(39) = -1; ticks(1) = 3; eventTime(39) = 0; eventMove(39) = 5",
                "eventMove(40) = -1",
                "eventTime(38) = 1; eventMove(38) = 0");
    }

    private static void dueMoves() {
        Script.run("At first, the first step with moves is due, with all its moves", "read T1(A+B+)A-T2B-T1 = 6",
                "ticks(2) = 0; rightEvents() = 0; ticks(1) = 2; rightEvents() = 2");
        Script.run("this move is not due any more then; the others are", "setMethod(0); read (A+B+)A-B- = 3",
                "ticks(1) = 1",
                "eventMove(0) = 1; rightEvents() = 1; ticks(1) = 1; eventMove(0) = 3; rightEvents() = 2");
        Script.run("when no move is due, the next step with moves: not before", "setMethod(0); setFault(0, 2, true)",
                "setFault(1, 4, true); read (A+B+)A-B- = 3; ticks(3) = 1; rightEvents() = 1; setFault(1, 1, true)",
                "ticks(1) = 1; eventMove(0) = 0; rightEvents() = 1; events() = 2");
        Script.run("the next step with moves: pauses are left out", "read T1A+T1T1A-T1 = 6; ticks(100)",
                "events() = 20; rightEvents() = 20; cycles() = 10");
    }

    private static void wrongEvents() {
        Script.run("An event is right if it is one of the moves that are due", "setMethod(0); read A+A-B+B- = 4",
                "ticks(1) = 2; eventMove(1) = 1; eventMove(0) = 3; rightEvents() = 1");
        Script.run("An event is right if all events before it were right", "setMethod(0); read A+A-B+B- = 4",
                "ticks(4) = 4",
                "eventMove(1) = 0; rightEvents() = 1; ticks(500); rightEvents() = 1; cycles() = 0");
        Script.run("An event is right: the first one may be wrong", "setMethod(0); setFault(1, 1, true)",
                "read A+A-B+B- = 4",
                "ticks(1) = 1; eventMove(0) = 3; events() = 1; rightEvents() = 0");
    }

    private static void cycles() {
        Script.run("and, if this is the first step with moves, a cycle is made", "read T1A+T1A-T1 = 5; ticks(6) = 1",
                "cycles() = 0; ticks(2) = 1; eventMove(0) = 0; cycles() = 1; rightEvents() = 2; ticks(5) = 1",
                "cycles() = 1",
                "ticks(5) = 1; cycles() = 2");
        Script.run("when no move is due: the last step's moves one after the other", "setMethod(0)",
                "read A+B+(A-B-) = 3",
                "ticks(7) = 3; eventMove(0) = 0; rightEvents() = 3; cycles() = 0; ticks(1) = 1; eventMove(0) = 2",
                "rightEvents() = 4; cycles() = 1");
        Script.run("after the last one again of the first one", "read A+A- = 2; ticks(4) = 2; cycles() = 1",
                "ticks(3) = 1",
                "rightEvents() = 3; cycles() = 1; ticks(3) = 1; rightEvents() = 4; cycles() = 2");
    }

    private static void faultOfPosition() {
        Script.run("0 its position does not change: at 0", "setFault(0, 0, true); read A+A- = 2; ticks(5) = 1",
                "isOut(0) = true; position(0) = 0; sensor(0, 0) = true; quiet() = 4");
        Script.run("0 its position does not change: on the way", "read A+A- = 2; ticks(2); setFault(0, 0, true)",
                "ticks(9) = 0",
                "position(0) = 2; setFault(0, 0, false); ticks(1); position(0) = 3");
        Script.run("0 its position does not change: at the end", "read A+A- = 2; ticks(3); setFault(0, 0, true)",
                "ticks(9) = 1",
                "position(0) = 3; isOut(0) = false; setFault(0, 0, false); ticks(1); position(0) = 2");
        Script.run("0 its position, of this cylinder alone", "setFault(1, 0, true); read (A+B+)(A-B-) = 2; ticks(3)",
                "position(0) = 3; position(1) = 0; isOut(1) = true");
    }

    /** At 0, on the way and at the end; without a fault, with one of the two, and with both. */
    private static void faultsOfSensors() {
        for (int ticks : new int[] {0, 2, 3}) {
            for (int sensor = 0; sensor < 2; sensor++) {
                boolean real = ticks == (sensor == 0 ? 0 : 3);
                int off = 1 + 2 * sensor;
                int on = off + 1;
                String look = "sensor(4, " + sensor + ") = ";
                String begin = "read E+E- = 2; ticks(" + ticks + ");";
                String other = "sensor(4, " + (1 - sensor) + ") = " + (ticks == (sensor == 0 ? 3 : 0)) + ";";
                Script.run(off + " sensor " + sensor + " is always off", begin, "setFault(4, " + off + ", true)",
                        look + false, other, "setFault(4, " + off + ", false)", look + real);
                Script.run(on + " sensor " + sensor + " is always on", begin, "setFault(4, " + on + ", true)",
                        look + true, other, "setFault(4, " + on + ", false)", look + real);
                Script.run("With both faults of a sensor, it is always off", begin, "setFault(4, " + on + ", true)",
                        "setFault(4, " + off + ", true)", look + false, "setFault(4, " + off + ", false)", look + true,
                        "setFault(4, " + off + ", true); setFault(4, " + on + ", false)", look + false, other);
            }
        }
        for (int c = 0; c < 6; c++) {
            for (int kind = 0; kind < 5; kind++) {
                Script.run("Initially there are no faults", "setFault(" + c + ", " + kind + ", true) = false");
            }
        }
    }

    private static void rest() {
        for (int method = 0; method < 3; method++) {
            for (int ticks : new int[] {1, 5, 26, 37}) {
                String text = "A+T4(B+C+)(A-B-)C-";
                String set = "setMethod(" + method + "); setStroke(1, 6); setFault(4, 4, true); read " + text + ";";
                String moved = set + "ticks(" + ticks + ");";
                Script.same("To bring the rig to rest: rest()", moved + "rest()", set);
                Script.same("brings the rig to rest: setMethod", moved + "setMethod(" + method + ")", set);
                Script.same("brings the rig to rest: setMethod, another one", moved + "setMethod(0)",
                set + "setMethod(0)");
                Script.same("brings the rig to rest: setStroke", moved + "setStroke(1, 6)", set);
                Script.same("brings the rig to rest: readSequence", moved + "read " + text, set);
            }
        }
        Script.run("all positions are 0, all valves at -, all timers 0", "read (A+F+)T9(A-F-) = 3; ticks(5)",
                "position(5) = 3",
                "isOut(5) = true; timer(1) = 2; rest() = 5; position(0) = 0; position(5) = 0; isOut(0) = false",
                "isOut(5) = false",
                "timer(1) = 0");
        Script.run("positions are 0, of a stuck cylinder too", "read A+A- = 2; ticks(2); setFault(0, 0, true); rest()",
                "position(0) = 0; isOut(0) = false");
        Script.run("the circuit is as at first", "read A+A-A+A- = 4; ticks(1); active() = 0; rest(); active() = 3",
                "setMethod(2)",
                "ticks(1); active() = 0; rest(); active() = -1");
        Script.run("the time is 0, there are no events, no cycle is made", FAST, "ticks(50); rest() = 50; time() = 0",
                "events() = 0; eventTime(0) = -1; eventTime(39) = -1; eventMove(0) = -1; cycles() = 0; ticks(1)",
                "eventTime(0) = 0",
                "eventTime(1) = -1");
        Script.run("and the first step with moves is due", "read T1A+B+A-B- = 5; ticks(6); rightEvents() = 2",
                "rest() = 6",
                "rightEvents() = 0; ticks(2) = 1; rightEvents() = 1");
        Script.run("and the first step with moves is due, also behind a wrong event", "setMethod(0); read A+A-B+B- = 4",
                "setFault(1, 1, true); ticks(1) = 1; rightEvents() = 0; setFault(1, 1, false); rest()",
                "setFault(0, 1, true)",
                "ticks(1) = 1; eventMove(0) = 1; rightEvents() = 1");
    }

    private static void whatStays() {
        Script.run("Faults, strokes, method and the start signal stay", "setMethod(2); setStroke(3, 20)",
                "setFault(5, 4, true)",
                "setStart(false); read A+A- = 2; ticks(3); rest() = 3; setStart(false) = false",
                "setFault(5, 4, true) = true",
                "setStroke(3, 20) = 20; setFault(5, 4, true) = true; setStart(false) = false; setMethod(2) = 2",
                "setStroke(3, 20) = 20; read A+A- = 2; setFault(5, 4, true) = true; setStart(false) = false",
                "setMethod(2) = 2");
        Script.run("Initially the method is 1, and there is no sequence", "steps() = 0; setMethod(1) = 1");
        String set = "read A+T4B+A-B- = 5; ticks(11);";
        Script.run("setStart, setFault and the text bring nothing to rest", set, "setStart(false); time() = 11",
                "setStart(true)",
                "setFault(0, 0, true); time() = 11; setFault(0, 0, false); type(65); time() = 11; clearText()",
                "time() = 11",
                "readSequence() = -1; time() = 11; events() = 3");
        Script.unchanged("setStart(true) while it is on", set, "setStart(true)");
        Script.unchanged("setFault as it is", set, "setFault(0, 0, false)");
    }
}
