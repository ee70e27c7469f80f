import java.util.Arrays;

/** A bench for pneumatic sequence circuits; README.md tells how to use it. */
public final class SequenceBench {
    private static final int CYLINDERS = 6;
    private static final int MOST_STEPS = 16;
    private static final int MOST_SIGNS = 80;
    private static final int FIRST_SIGN = 32;
    private static final int LAST_SIGN = 126;
    private static final int END_OF_TEXT = -1;
    private static final int MOST_PAUSE = 60;

    private static final int METHODS = 3;
    private static final int DIRECT = 0;
    private static final int CASCADE = 1;

    private static final int FIRST_STROKE = 3;
    private static final int MOST_STROKE = 20;

    private static final int FAULT_KINDS = 5;
    private static final int STUCK = 0;
    private static final int RETRACTED_OFF = 1;
    private static final int RETRACTED_ON = 2;
    private static final int EXTENDED_OFF = 3;
    private static final int EXTENDED_ON = 4;

    private static final int KEPT_EVENTS = 40;
    private static final int MOST_TICKS = 5000;
    private static final int WORKS_TICKS = 4000;
    private static final int EFFECT_TICKS = 2000;

    private static final int NO_ERROR = 0;
    private static final int BAD_SIGN = 1;
    private static final int BAD_MOVE = 2;
    private static final int BAD_END = 3;

    private final Reader reader;
    private final Rig rig;
    private final Rig trial;
    private final Snapshot snapshot;
    /** A text is read into this one, so that an error leaves the present sequence alone. */
    private Sequence spare;
    private int lastErrorKind;

    public SequenceBench() {
        Sequence none = new Sequence();
        reader = new Reader();
        rig = new Rig(none);
        trial = new Rig(none);
        snapshot = new Snapshot();
        spare = new Sequence();
        lastErrorKind = NO_ERROR;
    }

    // ---- text, sequence

    public int type(int c) throws IllegalArgumentException, IllegalStateException {
        if (c < FIRST_SIGN || c > LAST_SIGN) {
            throw new IllegalArgumentException("the code is not from 32 to 126");
        }
        if (reader.length >= MOST_SIGNS) {
            throw new IllegalStateException("the text has 80 characters already");
        }
        reader.append(c);
        return reader.length;
    }

    public int clearText() {
        int before = reader.length;
        reader.length = 0;
        return before;
    }

    public int readSequence() {
        reader.readInto(spare);
        lastErrorKind = reader.errorKind;
        if (reader.errorKind != NO_ERROR) {
            return -1 - reader.errorAt;
        }
        reader.length = 0;
        spare.divide();
        Sequence former = rig.sequence;
        rig.sequence = spare;
        spare = former;
        rig.bringToRest();
        return rig.sequence.count;
    }

    public int errorKind() {
        return lastErrorKind;
    }

    public int steps() {
        return rig.sequence.count;
    }

    public int moves(int step) throws IndexOutOfBoundsException {
        checkStep(step);
        return rig.sequence.movesIn(step);
    }

    public int direction(int step, int cylinder) throws IndexOutOfBoundsException {
        checkStep(step);
        checkCylinder(cylinder);
        if (holds(rig.sequence.plus[step], cylinder)) {
            return 1;
        }
        return holds(rig.sequence.minus[step], cylinder) ? -1 : 0;
    }

    public int pause(int step) throws IndexOutOfBoundsException {
        checkStep(step);
        return rig.sequence.pauses[step];
    }

    // ---- clashes, groups, costs

    public int clashes() throws IllegalStateException {
        checkSequence();
        int found = 0;
        for (int step = 0; step < rig.sequence.count; step++) {
            for (int cylinder = 0; cylinder < CYLINDERS; cylinder++) {
                if (rig.sequence.firstClash(step, cylinder) >= 0) {
                    found++;
                }
            }
        }
        return found;
    }

    public int clash(int step, int cylinder) throws IndexOutOfBoundsException {
        checkStep(step);
        checkCylinder(cylinder);
        return rig.sequence.firstClash(step, cylinder);
    }

    public int groups() throws IllegalStateException {
        checkSequence();
        return rig.sequence.groupCount;
    }

    public int cut(int i) throws IndexOutOfBoundsException {
        if (i < 0 || i >= rig.sequence.groupCount) {
            throw new IndexOutOfBoundsException("there is no such cut");
        }
        return rig.sequence.cuts[i];
    }

    public int groupOf(int step) throws IndexOutOfBoundsException {
        checkStep(step);
        return rig.sequence.groupOfStep[step];
    }

    public int valves(int method) throws IllegalArgumentException, IllegalStateException {
        checkMethod(method);
        checkSequence();
        return countValves(method);
    }

    // ---- the rig

    public int setMethod(int method) throws IllegalArgumentException {
        checkMethod(method);
        int before = rig.circuit.method;
        rig.circuit.method = method;
        rig.bringToRest();
        return before;
    }

    public int setStroke(int cylinder, int stroke) throws IndexOutOfBoundsException, IllegalArgumentException {
        checkCylinder(cylinder);
        if (stroke < 1 || stroke > MOST_STROKE) {
            throw new IllegalArgumentException("the stroke is not from 1 to 20");
        }
        int before = rig.strokes[cylinder];
        rig.strokes[cylinder] = stroke;
        rig.bringToRest();
        return before;
    }

    public boolean setStart(boolean on) {
        boolean before = rig.startOn;
        rig.startOn = on;
        return before;
    }

    public boolean setFault(int cylinder, int kind, boolean on)
            throws IndexOutOfBoundsException, IllegalArgumentException {
        checkCylinder(cylinder);
        checkFaultKind(kind);
        boolean before = holds(rig.faults[kind], cylinder);
        rig.putFault(cylinder, kind, on);
        return before;
    }

    public int rest() {
        int before = rig.time;
        rig.bringToRest();
        return before;
    }

    public int ticks(int n) throws IllegalArgumentException, IllegalStateException {
        if (n < 0 || n > MOST_TICKS) {
            throw new IllegalArgumentException("the number of ticks is not from 0 to 5000");
        }
        checkSequence();
        int before = rig.log.count;
        rig.run(n);
        return rig.log.count - before;
    }

    public int time() {
        return rig.time;
    }

    public int position(int cylinder) throws IndexOutOfBoundsException {
        checkCylinder(cylinder);
        return rig.positions[cylinder];
    }

    public boolean isOut(int cylinder) throws IndexOutOfBoundsException {
        checkCylinder(cylinder);
        return holds(rig.out, cylinder);
    }

    public boolean sensor(int cylinder, int sensor) throws IndexOutOfBoundsException {
        checkCylinder(cylinder);
        if (sensor < 0 || sensor > 1) {
            throw new IndexOutOfBoundsException("the sensor is not 0 or 1");
        }
        return holds(sensor == 0 ? rig.sensedRetracted() : rig.sensedExtended(), cylinder);
    }

    public int timer(int step) throws IndexOutOfBoundsException {
        checkStep(step);
        return rig.timers[step];
    }

    public int active() {
        return rig.circuit.active;
    }

    public int commands(int cylinder) throws IndexOutOfBoundsException {
        checkCylinder(cylinder);
        return rig.circuit.commandsOf(cylinder);
    }

    // ---- events

    public int events() {
        return rig.log.count;
    }

    public int eventTime(int i) throws IndexOutOfBoundsException {
        checkEvent(i);
        int slot = rig.log.slotOf(i);
        return slot < 0 ? -1 : rig.log.times[slot];
    }

    public int eventMove(int i) throws IndexOutOfBoundsException {
        checkEvent(i);
        int slot = rig.log.slotOf(i);
        return slot < 0 ? -1 : rig.log.moves[slot];
    }

    public int rightEvents() {
        return rig.score.right;
    }

    public int cycles() {
        return rig.score.cycles;
    }

    public int quiet() {
        return rig.time - rig.lastChange;
    }

    // ---- trials

    public boolean works(int method) throws IllegalArgumentException, IllegalStateException {
        checkMethod(method);
        checkSequence();
        return measureCycle(method) >= 0;
    }

    public int cycleTime(int method) throws IllegalArgumentException, IllegalStateException {
        checkMethod(method);
        checkSequence();
        return measureCycle(method);
    }

    public int cheapest() throws IllegalStateException {
        checkSequence();
        int best = -1;
        int fewest = 0;
        for (int method = 0; method < METHODS; method++) {
            int count = countValves(method);
            if ((best < 0 || count < fewest) && measureCycle(method) >= 0) {
                best = method;
                fewest = count;
            }
        }
        return best;
    }

    public int effect(int cylinder, int kind, int n)
            throws IndexOutOfBoundsException, IllegalArgumentException, IllegalStateException {
        checkCylinder(cylinder);
        checkFaultKind(kind);
        if (n < 0 || n > EFFECT_TICKS) {
            throw new IllegalArgumentException("the number of ticks is not from 0 to 2000");
        }
        checkSequence();
        trial.becomeCopyOf(rig, rig.circuit.method);
        trial.putFault(cylinder, kind, true);
        trial.run(n);
        return trial.score.right;
    }

    public int suspect(int i) throws IndexOutOfBoundsException, IllegalStateException {
        if (i < 0) {
            throw new IndexOutOfBoundsException("the number of the fault is negative");
        }
        checkSequence();
        int found = 0;
        for (int cylinder = 0; cylinder < CYLINDERS; cylinder++) {
            for (int kind = 0; kind < FAULT_KINDS; kind++) {
                if (explains(cylinder, kind)) {
                    if (found == i) {
                        return 10 * cylinder + kind;
                    }
                    found++;
                }
            }
        }
        return -1;
    }

    public long fingerprint() {
        long print = 19;
        print = 31 * print + rig.time;
        print = 31 * print + rig.circuit.active;
        print = 31 * print + rig.log.count;
        print = 31 * print + rig.score.right;
        print = 31 * print + rig.score.cycles;
        print = 31 * print + quiet();
        for (int cylinder = 0; cylinder < CYLINDERS; cylinder++) {
            print = 31 * print + rig.positions[cylinder];
            print = 31 * print + (holds(rig.out, cylinder) ? 1 : 0);
            print = 31 * print + rig.circuit.commandsOf(cylinder);
        }
        for (int step = 0; step < rig.sequence.count; step++) {
            print = 31 * print + rig.timers[step];
        }
        return print;
    }

    // ---- behind the face

    /** Sets are numbers: bit i stands for cylinder i, or for step i. */
    private static boolean holds(int set, int member) {
        return (set >> member & 1) == 1;
    }

    private static void checkCylinder(int cylinder) {
        if (cylinder < 0 || cylinder >= CYLINDERS) {
            throw new IndexOutOfBoundsException("the cylinder is not from 0 to 5");
        }
    }

    private static void checkFaultKind(int kind) {
        if (kind < 0 || kind >= FAULT_KINDS) {
            throw new IllegalArgumentException("the kind of the fault is not from 0 to 4");
        }
    }

    private static void checkMethod(int method) {
        if (method < 0 || method >= METHODS) {
            throw new IllegalArgumentException("the method is not from 0 to 2");
        }
    }

    private static void checkEvent(int i) {
        if (i < 0) {
            throw new IndexOutOfBoundsException("the number of the event is negative");
        }
    }

    private void checkStep(int step) {
        if (step < 0 || step >= rig.sequence.count) {
            throw new IndexOutOfBoundsException("there is no such step");
        }
    }

    private void checkSequence() {
        if (rig.sequence.count == 0) {
            throw new IllegalStateException("there is no sequence");
        }
    }

    private int countValves(int method) {
        int cylinders = Integer.bitCount(rig.sequence.movingCylinders());
        if (method == DIRECT) {
            return cylinders;
        }
        return cylinders + (method == CASCADE ? rig.sequence.groupCount - 1 : rig.sequence.count);
    }

    /**
     * The cycle time in a trial without faults; -1 if the circuit does not work. One tick never makes
     * two cycles, since no cylinder has two events in it, so the counter can be read tick by tick.
     */
    private int measureCycle(int method) {
        trial.becomeCopyOf(rig, method);
        int firstAt = -1;
        for (int tick = 0; tick < WORKS_TICKS; tick++) {
            trial.makeTick();
            if (trial.score.cycles >= 2) {
                return trial.time - firstAt;
            }
            if (trial.score.cycles == 1 && firstAt < 0) {
                firstAt = trial.time;
            }
            if (trial.still || trial.score.failed) {
                return -1;
            }
        }
        return -1;
    }

    private boolean explains(int cylinder, int kind) {
        trial.becomeCopyOf(rig, rig.circuit.method);
        trial.putFault(cylinder, kind, true);
        runTrialFar(Math.min(rig.time, MOST_TICKS));
        boolean same = trial.out == rig.out;
        for (int other = 0; other < CYLINDERS; other++) {
            same = same && trial.positions[other] == rig.positions[other];
        }
        return same;
    }

    /**
     * Brings the trial to where n ticks lead. Nothing from outside changes in a trial, so once a former
     * state comes again the rest is periodic, and whole periods can be left out; without this the
     * thirty trials of one suspect() would take 150,000 ticks.
     */
    private void runTrialFar(int n) {
        int left = n;
        int sinceSnapshot = 0;
        int span = 1;
        boolean shortened = false;
        snapshot.take(trial);
        for (int tick = 0; tick < n && left > 0; tick++) {
            trial.makeTick();
            left--;
            sinceSnapshot++;
            if (shortened) {
                continue;
            }
            if (sinceSnapshot > 0 && snapshot.matches(trial)) {
                left = left % sinceSnapshot;
                shortened = true;
            } else if (sinceSnapshot >= span) {
                snapshot.take(trial);
                sinceSnapshot = 0;
                span = 2 * span;
            }
        }
    }

    /** The steps, what each moves, and their division into groups; without steps it stands for no sequence. */
    private static final class Sequence {
        int count;
        final int[] plus = new int[MOST_STEPS];
        final int[] minus = new int[MOST_STEPS];
        final int[] pauses = new int[MOST_STEPS];
        /** The cylinders that are extended before each step of the undisturbed sequence. */
        final int[] outBefore = new int[MOST_STEPS];
        int groupCount;
        final int[] cuts = new int[MOST_STEPS];
        final int[] groupOfStep = new int[MOST_STEPS];

        void clear() {
            count = 0;
            Arrays.fill(plus, 0);
            Arrays.fill(minus, 0);
            Arrays.fill(pauses, 0);
        }

        int movesIn(int step) {
            return plus[step] | minus[step];
        }

        int movingCylinders() {
            int set = 0;
            for (int step = 0; step < count; step++) {
                set |= movesIn(step);
            }
            return set;
        }

        int stepBefore(int step) {
            return step > 0 ? step - 1 : count - 1;
        }

        /** The first step with moves from a step on; the number of steps if there is none. */
        int movingStepFrom(int step) {
            for (int i = step; i < count; i++) {
                if ((plus[i] | minus[i]) != 0) {
                    return i;
                }
            }
            return count;
        }

        int firstClash(int step, int cylinder) {
            boolean extending = holds(plus[step], cylinder);
            if (!extending && !holds(minus[step], cylinder)) {
                return -1;
            }
            for (int other = 0; other < count; other++) {
                int opposite = extending ? minus[other] : plus[other];
                if (holds(opposite, cylinder) && endsReached(stepBefore(other), outBefore[step])) {
                    return other;
                }
            }
            return -1;
        }

        private boolean endsReached(int step, int out) {
            return pauses[step] == 0 && (plus[step] & ~out) == 0 && (minus[step] & out) == 0;
        }

        /** Takes the fewest groups, and of these divisions the one with the earliest cuts. */
        void divide() {
            // Each step alone would do as a group, since no cylinder moves twice in a step.
            int fewest = count;
            int first = 0;
            for (int step = 0; step < count; step++) {
                int needed = groupsNeeded(step, step + count);
                if (needed < fewest) {
                    fewest = needed;
                    first = step;
                }
            }
            placeCuts(first, fewest);
            nameGroups();
        }

        /** How many groups the steps from one place of the ring up to another need at least. */
        private int groupsNeeded(int from, int end) {
            int needed = 1;
            int used = 0;
            for (int i = from; i < end; i++) {
                int moving = movesIn(i < count ? i : i - count);
                if ((used & moving) != 0) {
                    needed++;
                    used = 0;
                }
                used |= moving;
            }
            return needed;
        }

        /**
         * A cut may stand as soon as the steps behind it can do with the groups that are left. No cut
         * lies before the first one on the ring: each cut of a best division could begin it too.
         */
        private void placeCuts(int first, int fewest) {
            groupCount = 0;
            for (int step = first; step < count && groupCount < fewest; step++) {
                if (groupsNeeded(step, first + count) <= fewest - groupCount) {
                    cuts[groupCount] = step;
                    groupCount++;
                }
            }
        }

        /** -1 if there is no such group. */
        int firstStepOf(int group) {
            return group >= 0 && group < groupCount ? cuts[group] : -1;
        }

        private void nameGroups() {
            int group = groupCount - 1;
            int next = 0;
            for (int step = 0; step < count; step++) {
                if (next < groupCount && cuts[next] == step) {
                    group = next;
                    next++;
                }
                groupOfStep[step] = group;
            }
        }
    }

    /** Holds the text and reads it as a sequence. */
    private static final class Reader {
        final int[] signs = new int[MOST_SIGNS];
        int length;
        int errorKind;
        int errorAt;
        private int at;
        /** The cylinders that are extended by the moves that have been read. */
        private int out;

        void append(int sign) {
            if (length < MOST_SIGNS) {
                signs[length] = sign;
                length++;
            }
        }

        void readInto(Sequence target) {
            target.clear();
            errorKind = NO_ERROR;
            errorAt = 0;
            at = 0;
            out = 0;
            for (int i = 0; i < MOST_STEPS && at < length && errorKind != BAD_SIGN; i++) {
                target.outBefore[i] = out;
                readStep(target, i);
                target.count = i + 1;
            }
            if (errorKind != BAD_SIGN && (at < length || length == 0)) {
                refuseSign(at);
            }
            if (errorKind == NO_ERROR && (out != 0 || target.movingCylinders() == 0)) {
                errorKind = BAD_END;
                errorAt = length;
            }
        }

        private int signAt(int i) {
            return i >= 0 && i < length ? signs[i] : END_OF_TEXT;
        }

        /** An error of this kind goes before the others, wherever they are. */
        private void refuseSign(int place) {
            errorKind = BAD_SIGN;
            errorAt = place;
        }

        private void readStep(Sequence target, int step) {
            int sign = signAt(at);
            if (sign == '(') {
                readParallel(target, step);
            } else if (sign == 'T') {
                readPause(target, step);
            } else {
                readMove(target, step);
            }
        }

        private void readParallel(Sequence target, int step) {
            at++;
            for (int found = 0; found < MOST_SIGNS && errorKind != BAD_SIGN; found++) {
                if (found >= 2 && signAt(at) == ')') {
                    at++;
                    return;
                }
                readMove(target, step);
            }
        }

        private void readMove(Sequence target, int step) {
            int cylinder = signAt(at) - 'A';
            int sign = signAt(at + 1);
            if (cylinder < 0 || cylinder >= CYLINDERS) {
                refuseSign(at);
            } else if (sign != '+' && sign != '-') {
                refuseSign(at + 1);
            } else {
                takeMove(target, step, cylinder, sign == '+');
                at += 2;
            }
        }

        private void takeMove(Sequence target, int step, int cylinder, boolean extend) {
            boolean twice = holds(target.movesIn(step), cylinder);
            if (errorKind == NO_ERROR && (twice || holds(out, cylinder) == extend)) {
                errorKind = BAD_MOVE;
                errorAt = at;
            }
            if (extend) {
                target.plus[step] |= 1 << cylinder;
                out |= 1 << cylinder;
            } else {
                target.minus[step] |= 1 << cylinder;
                out &= ~(1 << cylinder);
            }
        }

        private void readPause(Sequence target, int step) {
            int value = digitAt(at + 1);
            int second = digitAt(at + 2);
            if (value < 0) {
                refuseSign(at + 1);
                return;
            }
            if (second >= 0) {
                value = 10 * value + second;
            }
            if (value < 1 || value > MOST_PAUSE) {
                refuseSign(at + 1);
                return;
            }
            target.pauses[step] = value;
            at += second >= 0 ? 3 : 2;
        }

        private int digitAt(int i) {
            int sign = signAt(i);
            return sign >= '0' && sign <= '9' ? sign - '0' : -1;
        }
    }

    /** Decides in each tick which commands are on and which timers run. */
    private static final class Circuit {
        int method = CASCADE;
        /** The active group of the cascade or the active step of the stepper; -1 if there is none. */
        int active = -1;
        int plusOn;
        int minusOn;
        int timersOn;
        boolean switched;

        void reset(Sequence sequence) {
            active = method == CASCADE ? sequence.groupCount - 1 : -1;
            switchAllOff();
        }

        int commandsOf(int cylinder) {
            return (holds(plusOn, cylinder) ? 1 : 0) + (holds(minusOn, cylinder) ? 2 : 0);
        }

        void decide(Sequence sequence, int complete, boolean startOn) {
            int before = active;
            switchAllOff();
            if (method == DIRECT) {
                decideDirect(sequence, readySteps(sequence, complete, startOn));
            } else if (method == CASCADE) {
                decideCascade(sequence, readySteps(sequence, complete, startOn));
            } else {
                decideStepper(sequence, complete, startOn);
            }
            switched = active != before;
        }

        /** The steps whose step before is complete; step 0 is one of them only with the start signal. */
        private int readySteps(Sequence sequence, int complete, boolean startOn) {
            boolean firstReady = startOn && holds(complete, sequence.stepBefore(0));
            return complete << 1 | (firstReady ? 1 : 0);
        }

        private void switchAllOff() {
            plusOn = 0;
            minusOn = 0;
            timersOn = 0;
        }

        private void switchOn(Sequence sequence, int step) {
            plusOn |= sequence.plus[step];
            minusOn |= sequence.minus[step];
            if (sequence.pauses[step] > 0) {
                timersOn |= 1 << step;
            }
        }

        private void decideDirect(Sequence sequence, int ready) {
            for (int step = 0; step < sequence.count; step++) {
                if (holds(ready, step)) {
                    switchOn(sequence, step);
                }
            }
        }

        private void decideCascade(Sequence sequence, int ready) {
            int next = active + 1 < sequence.groupCount ? active + 1 : 0;
            if (holds(ready, sequence.firstStepOf(next))) {
                active = next;
            }
            int first = sequence.firstStepOf(active);
            for (int step = 0; step < sequence.count; step++) {
                if (sequence.groupOfStep[step] == active && (step == first || holds(ready, step))) {
                    switchOn(sequence, step);
                }
            }
        }

        private void decideStepper(Sequence sequence, int complete, boolean startOn) {
            if (active < 0) {
                active = startOn ? 0 : -1;
            } else if (holds(complete, active)) {
                active = active + 1 < sequence.count ? active + 1 : -1;
            }
            if (active >= 0 && active < sequence.count) {
                switchOn(sequence, active);
            }
        }
    }

    /** Counts all events and keeps the latest ones. */
    private static final class EventLog {
        final int[] times = new int[KEPT_EVENTS];
        final int[] moves = new int[KEPT_EVENTS];
        int count;
        private int kept;
        private int latest;

        void reset() {
            count = 0;
            kept = 0;
            latest = 0;
        }

        void note(int time, int move) {
            latest = latest + 1 < KEPT_EVENTS ? latest + 1 : 0;
            times[latest] = time;
            moves[latest] = move;
            kept = Math.min(kept + 1, KEPT_EVENTS);
            count++;
        }

        /** Where the i-th latest event is kept; -1 if it is not. */
        int slotOf(int i) {
            if (i < 0 || i >= kept) {
                return -1;
            }
            return latest >= i ? latest - i : latest - i + KEPT_EVENTS;
        }
    }

    /** Compares the events with the sequence. */
    private static final class Score {
        int right;
        int cycles;
        boolean failed;
        private int dueStep;
        private int duePlus;
        private int dueMinus;

        void reset(Sequence sequence) {
            right = 0;
            cycles = 0;
            failed = false;
            makeDue(sequence, sequence.movingStepFrom(0));
        }

        private void makeDue(Sequence sequence, int step) {
            boolean exists = step < sequence.count;
            dueStep = step;
            duePlus = exists ? sequence.plus[step] : 0;
            dueMinus = exists ? sequence.minus[step] : 0;
        }

        void judge(Sequence sequence, int cylinder, boolean extended) {
            if (failed || !holds(extended ? duePlus : dueMinus, cylinder)) {
                failed = true;
                return;
            }
            right++;
            duePlus &= ~(1 << cylinder);
            dueMinus &= ~(1 << cylinder);
            if (duePlus != 0 || dueMinus != 0) {
                return;
            }
            int next = sequence.movingStepFrom(dueStep + 1);
            if (next >= sequence.count) {
                next = sequence.movingStepFrom(0);
                cycles++;
            }
            makeDue(sequence, next);
        }
    }

    /** The cylinders with their valves, sensors, timers and faults, and the circuit that drives them. */
    private static final class Rig {
        Sequence sequence;
        final Circuit circuit = new Circuit();
        final EventLog log = new EventLog();
        final Score score = new Score();
        final int[] strokes = new int[CYLINDERS];
        final int[] positions = new int[CYLINDERS];
        final int[] timers = new int[MOST_STEPS];
        /** For each kind of fault the set of the cylinders that have it. */
        final int[] faults = new int[FAULT_KINDS];
        boolean startOn = true;
        /** The cylinders whose valve is at +. */
        int out;
        int time;
        int lastChange;
        /** The latest tick changed nothing, so the next one will not either while nobody interferes. */
        boolean still;

        Rig(Sequence sequence) {
            this.sequence = sequence;
            Arrays.fill(strokes, FIRST_STROKE);
        }

        void bringToRest() {
            Arrays.fill(positions, 0);
            Arrays.fill(timers, 0);
            out = 0;
            time = 0;
            lastChange = 0;
            still = false;
            circuit.reset(sequence);
            log.reset();
            score.reset(sequence);
        }

        /** Takes over the sequence and the strokes of another rig, at rest and without faults. */
        void becomeCopyOf(Rig other, int method) {
            sequence = other.sequence;
            System.arraycopy(other.strokes, 0, strokes, 0, CYLINDERS);
            Arrays.fill(faults, 0);
            circuit.method = method;
            bringToRest();
        }

        void putFault(int cylinder, int kind, boolean on) {
            if (on) {
                faults[kind] |= 1 << cylinder;
            } else {
                faults[kind] &= ~(1 << cylinder);
            }
        }

        void run(int n) {
            for (int tick = 1; tick <= n; tick++) {
                makeTick();
                if (still) {
                    time += n - tick;
                    return;
                }
            }
        }

        void makeTick() {
            circuit.decide(sequence, completeSteps(), startOn);
            boolean shifted = shiftValves();
            boolean moved = movePistons();
            boolean counted = advanceTimers();
            time++;
            if (shifted || moved) {
                lastChange = time;
            }
            still = !shifted && !moved && !counted && !circuit.switched;
        }

        int sensedRetracted() {
            int set = 0;
            for (int cylinder = 0; cylinder < CYLINDERS; cylinder++) {
                if (positions[cylinder] == 0) {
                    set |= 1 << cylinder;
                }
            }
            return (set | faults[RETRACTED_ON]) & ~faults[RETRACTED_OFF];
        }

        int sensedExtended() {
            int set = 0;
            for (int cylinder = 0; cylinder < CYLINDERS; cylinder++) {
                if (positions[cylinder] == strokes[cylinder]) {
                    set |= 1 << cylinder;
                }
            }
            return (set | faults[EXTENDED_ON]) & ~faults[EXTENDED_OFF];
        }

        private int completeSteps() {
            int notRetracted = ~sensedRetracted();
            int notExtended = ~sensedExtended();
            int set = 0;
            for (int step = 0; step < sequence.count; step++) {
                if ((sequence.plus[step] & notExtended) == 0
                        && (sequence.minus[step] & notRetracted) == 0
                        && timers[step] >= sequence.pauses[step]) {
                    set |= 1 << step;
                }
            }
            return set;
        }

        private boolean shiftValves() {
            int toPlus = circuit.plusOn & ~circuit.minusOn & ~out;
            int toMinus = circuit.minusOn & ~circuit.plusOn & out;
            int shifting = toPlus | toMinus;
            for (int cylinder = 0; cylinder < CYLINDERS && shifting != 0; cylinder++) {
                if (holds(shifting, cylinder)) {
                    boolean extended = holds(toPlus, cylinder);
                    log.note(time, 2 * cylinder + (extended ? 1 : 0));
                    score.judge(sequence, cylinder, extended);
                }
            }
            out = (out | toPlus) & ~toMinus;
            return shifting != 0;
        }

        private boolean movePistons() {
            boolean moved = false;
            for (int cylinder = 0; cylinder < CYLINDERS; cylinder++) {
                int goal = holds(out, cylinder) ? strokes[cylinder] : 0;
                if (positions[cylinder] != goal && !holds(faults[STUCK], cylinder)) {
                    positions[cylinder] += positions[cylinder] < goal ? 1 : -1;
                    moved = true;
                }
            }
            return moved;
        }

        private boolean advanceTimers() {
            boolean counted = false;
            for (int step = 0; step < sequence.count; step++) {
                int next = holds(circuit.timersOn, step) ? Math.min(timers[step] + 1, MOST_PAUSE) : 0;
                counted = counted || next != timers[step];
                timers[step] = next;
            }
            return counted;
        }
    }

    /** All of a rig that its next ticks depend on, as it was at some tick of a trial. */
    private static final class Snapshot {
        private final int[] positions = new int[CYLINDERS];
        private final int[] timers = new int[MOST_STEPS];
        private int out;
        private int active;

        void take(Rig rig) {
            System.arraycopy(rig.positions, 0, positions, 0, CYLINDERS);
            System.arraycopy(rig.timers, 0, timers, 0, MOST_STEPS);
            out = rig.out;
            active = rig.circuit.active;
        }

        boolean matches(Rig rig) {
            boolean same = out == rig.out && active == rig.circuit.active;
            for (int cylinder = 0; cylinder < CYLINDERS && same; cylinder++) {
                same = positions[cylinder] == rig.positions[cylinder];
            }
            for (int step = 0; step < MOST_STEPS && same; step++) {
                same = timers[step] == rig.timers[step];
            }
            return same;
        }
    }
}
