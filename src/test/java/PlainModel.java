import java.util.ArrayList;
import java.util.HashSet;
import java.util.List;
import java.util.Set;

/**
 * The document once more, word by word and as slow as it likes: booleans, lists and trials of all
 * subsets instead of bit sets and short cuts, so that RandomRunsTest can compare the two.
 */
final class PlainModel {
    static final class Move {
        final int cylinder;
        final boolean plus;

        Move(int cylinder, boolean plus) {
            this.cylinder = cylinder;
            this.plus = plus;
        }
    }

    static final class Step {
        final List<Move> moves = new ArrayList<>();
        int pause = 0;

        Move of(int cylinder) {
            for (Move m : moves) {
                if (m.cylinder == cylinder) {
                    return m;
                }
            }
            return null;
        }
    }

    /** One rig with all that Description, 'Ticks', says. */
    final class Run {
        int method;
        boolean start;
        boolean[][] fault = new boolean[6][5];
        int[] position = new int[6];
        boolean[] valve = new boolean[6];
        int[] timer = new int[16];
        int active;
        int time = 0;
        int lastMoved = 0;
        int right = 0;
        int cycles = 0;
        boolean wrong = false;
        List<int[]> events = new ArrayList<>();
        boolean[][] command = new boolean[6][2];
        int dueStep = -1;
        List<Move> due = new ArrayList<>();
        List<Integer> cycleTimes = new ArrayList<>();

        void rest() {
            position = new int[6];
            valve = new boolean[6];
            timer = new int[16];
            command = new boolean[6][2];
            events.clear();
            cycleTimes.clear();
            time = 0;
            lastMoved = 0;
            right = 0;
            cycles = 0;
            wrong = false;
            active = method == 1 && !sequence.isEmpty() ? cuts.size() - 1 : -1;
            dueStep = -1;
            due.clear();
            if (!sequence.isEmpty()) {
                nextDue();
            }
        }

        void nextDue() {
            do {
                dueStep = (dueStep + 1) % sequence.size();
            } while (sequence.get(dueStep).moves.isEmpty());
            due.addAll(sequence.get(dueStep).moves);
        }

        boolean sensor(int c, int s) {
            boolean on = s == 0 ? position[c] == 0 : position[c] == stroke[c];
            if (fault[c][2 + 2 * s]) {
                on = true;
            }
            if (fault[c][1 + 2 * s]) {
                on = false;
            }
            return on;
        }

        boolean complete(int i, boolean[][] read) {
            Step step = sequence.get(i);
            if (step.pause > 0) {
                return timer[i] >= step.pause;
            }
            for (Move m : step.moves) {
                if (!read[m.cylinder][m.plus ? 1 : 0]) {
                    return false;
                }
            }
            return true;
        }

        boolean[] stepsOn(boolean[][] read) {
            int n = sequence.size();
            boolean[] on = new boolean[n];
            if (method == 0) {
                for (int i = 0; i < n; i++) {
                    on[i] = complete((i + n - 1) % n, read) && (i != 0 || start);
                }
            } else if (method == 1) {
                int next = (active + 1) % cuts.size();
                int last = (cuts.get(next) + n - 1) % n;
                if (complete(last, read) && (cuts.get(next) != 0 || start)) {
                    active = next;
                }
                for (int i = 0; i < n; i++) {
                    boolean first = cuts.get(active) == i;
                    boolean condition = first || complete((i + n - 1) % n, read);
                    if (i == 0 && !first && !start) {
                        condition = false;
                    }
                    on[i] = groupOf(i) == active && condition;
                }
            } else {
                if (active == -1 && start) {
                    active = 0;
                } else if (active != -1 && complete(active, read)) {
                    active = active == n - 1 ? -1 : active + 1;
                }
                if (active != -1) {
                    on[active] = true;
                }
            }
            return on;
        }

        void tick() {
            boolean[][] read = new boolean[6][2];
            for (int c = 0; c < 6; c++) {
                read[c][0] = sensor(c, 0);
                read[c][1] = sensor(c, 1);
            }
            boolean[] on = stepsOn(read);
            command = new boolean[6][2];
            for (int i = 0; i < on.length; i++) {
                for (Move m : sequence.get(i).moves) {
                    command[m.cylinder][m.plus ? 1 : 0] |= on[i];
                }
            }
            boolean moved = false;
            for (int c = 0; c < 6; c++) {
                if (command[c][0] != command[c][1] && valve[c] != command[c][1]) {
                    valve[c] = command[c][1];
                    moved = true;
                    event(c);
                }
            }
            for (int c = 0; c < 6; c++) {
                int before = position[c];
                if (!fault[c][0]) {
                    position[c] = valve[c] ? Math.min(stroke[c], before + 1) : Math.max(0, before - 1);
                }
                moved |= position[c] != before;
            }
            for (int i = 0; i < on.length; i++) {
                boolean runs = on[i] && sequence.get(i).pause > 0;
                timer[i] = runs ? Math.min(60, timer[i] + 1) : 0;
            }
            time++;
            if (moved) {
                lastMoved = time;
            }
        }

        void event(int c) {
            events.add(new int[] {time, 2 * c + (valve[c] ? 1 : 0)});
            Move found = null;
            for (Move m : due) {
                if (m.cylinder == c && m.plus == valve[c]) {
                    found = m;
                }
            }
            if (wrong || found == null) {
                wrong = true;
                return;
            }
            right++;
            due.remove(found);
            if (due.isEmpty()) {
                int before = dueStep;
                nextDue();
                if (dueStep <= before) {
                    cycles++;
                    cycleTimes.add(time);
                }
            }
        }
    }

    private String text = "";
    private List<Step> sequence = new ArrayList<>();
    private List<Integer> cuts = new ArrayList<>();
    private final int[] stroke = {3, 3, 3, 3, 3, 3};
    private int errorKind = 0;
    private final Run rig = new Run();

    PlainModel() {
        rig.method = 1;
        rig.start = true;
        rig.rest();
    }

    // ---- text

    /** {kind, position}; the characters go through a table of places, one by one. */
    static int[] errorOf(String text) {
        int[] bad = badSign(text);
        if (bad != null) {
            return bad;
        }
        Set<Integer> out = new HashSet<>();
        Set<Integer> inGroup = null;
        boolean moves = false;
        for (int i = 0; i < text.length(); i++) {
            char c = text.charAt(i);
            if (c == '(') {
                inGroup = new HashSet<>();
            } else if (c == ')') {
                inGroup = null;
            } else if (c >= 'A' && c <= 'F') {
                int cylinder = c - 'A';
                boolean plus = text.charAt(i + 1) == '+';
                if (inGroup != null && !inGroup.add(cylinder)) {
                    return new int[] {2, i};
                }
                if (plus ? !out.add(cylinder) : !out.remove(cylinder)) {
                    return new int[] {2, i};
                }
                moves = true;
            }
        }
        return !moves || !out.isEmpty() ? new int[] {3, text.length()} : null;
    }

    private static int[] badSign(String text) {
        String place = "begin";
        int steps = 0;
        int inGroup = 0;
        int firstDigit = 0;
        for (int i = 0; i < text.length(); i++) {
            char c = text.charAt(i);
            boolean letter = "ABCDEF".indexOf(c) >= 0;
            boolean digit = "0123456789".indexOf(c) >= 0;
            if (place.equals("second digit")) {
                if (digit) {
                    int value = Integer.parseInt(text.substring(firstDigit, i + 1));
                    if (value < 1 || value > 60) {
                        return new int[] {1, firstDigit};
                    }
                    place = "begin";
                    continue;
                }
                if (text.charAt(firstDigit) == '0') {
                    return new int[] {1, firstDigit};
                }
                place = "begin";
            }
            if (place.equals("begin") && steps < 16 && (letter || c == 'T' || c == '(')) {
                steps++;
                inGroup = 0;
                place = letter ? "sign" : c == 'T' ? "first digit" : "letter in group";
            } else if (place.equals("sign") && (c == '+' || c == '-')) {
                place = "begin";
            } else if (place.equals("first digit") && digit) {
                firstDigit = i;
                place = "second digit";
            } else if (place.equals("letter in group") && letter) {
                place = "sign in group";
            } else if (place.equals("sign in group") && (c == '+' || c == '-')) {
                inGroup++;
                place = "letter in group";
            } else if (place.equals("letter in group") && c == ')' && inGroup >= 2) {
                place = "begin";
            } else {
                return new int[] {1, i};
            }
        }
        if (place.equals("second digit")) {
            return text.charAt(firstDigit) == '0' ? new int[] {1, firstDigit} : null;
        }
        return place.equals("begin") && steps > 0 ? null : new int[] {1, text.length()};
    }

    private static List<Step> stepsOf(String text) {
        List<Step> steps = new ArrayList<>();
        Step group = null;
        int i = 0;
        while (i < text.length()) {
            char c = text.charAt(i);
            if (c == '(') {
                group = new Step();
                steps.add(group);
                i++;
            } else if (c == ')') {
                group = null;
                i++;
            } else if (c == 'T') {
                int end = i + 1;
                while (end < text.length() && Character.isDigit(text.charAt(end))) {
                    end++;
                }
                Step step = new Step();
                step.pause = Integer.parseInt(text.substring(i + 1, end));
                steps.add(step);
                i = end;
            } else {
                Step step = group == null ? new Step() : group;
                if (group == null) {
                    steps.add(step);
                }
                step.moves.add(new Move(c - 'A', text.charAt(i + 1) == '+'));
                i += 2;
            }
        }
        return steps;
    }

    // ---- groups, by looking at all sets of cuts

    private void divide() {
        int n = sequence.size();
        List<Integer> best = null;
        for (int set = 1; set < 1 << n; set++) {
            List<Integer> now = new ArrayList<>();
            for (int i = 0; i < n; i++) {
                if ((set >> i & 1) == 1) {
                    now.add(i);
                }
            }
            if ((best == null || better(now, best)) && isDivision(now)) {
                best = now;
            }
        }
        cuts = best;
    }

    private static boolean better(List<Integer> a, List<Integer> b) {
        if (a.size() != b.size()) {
            return a.size() < b.size();
        }
        for (int i = 0; i < a.size(); i++) {
            if (!a.get(i).equals(b.get(i))) {
                return a.get(i) < b.get(i);
            }
        }
        return false;
    }

    private boolean isDivision(List<Integer> at) {
        int n = sequence.size();
        for (int g = 0; g < at.size(); g++) {
            int from = at.get(g);
            int end = g + 1 < at.size() ? at.get(g + 1) : at.get(0) + n;
            Set<Integer> seen = new HashSet<>();
            for (int i = from; i < end; i++) {
                for (Move m : sequence.get(i % n).moves) {
                    if (!seen.add(m.cylinder)) {
                        return false;
                    }
                }
            }
        }
        return true;
    }

    // ---- the face

    private enum Otherwise { INDEX, ARGUMENT, STATE }

    private void need(boolean condition, Otherwise otherwise) {
        if (condition) {
            return;
        }
        switch (otherwise) {
            case INDEX:
                throw new IndexOutOfBoundsException();
            case ARGUMENT:
                throw new IllegalArgumentException();
            default:
                throw new IllegalStateException();
        }
    }

    private void needStep(int step) {
        need(step >= 0 && step < sequence.size(), Otherwise.INDEX);
    }

    private void needCylinder(int c) {
        need(c >= 0 && c < 6, Otherwise.INDEX);
    }

    private void needSequence() {
        need(!sequence.isEmpty(), Otherwise.STATE);
    }

    private void needMethod(int method) {
        need(method >= 0 && method <= 2, Otherwise.ARGUMENT);
    }

    int type(int c) {
        need(c >= 32 && c <= 126, Otherwise.ARGUMENT);
        need(text.length() < 80, Otherwise.STATE);
        text += (char) c;
        return text.length();
    }

    int clearText() {
        int length = text.length();
        text = "";
        return length;
    }

    int readSequence() {
        int[] error = errorOf(text);
        errorKind = error == null ? 0 : error[0];
        if (error != null) {
            return -1 - error[1];
        }
        sequence = stepsOf(text);
        text = "";
        divide();
        rig.rest();
        return sequence.size();
    }

    int errorKind() {
        return errorKind;
    }

    int steps() {
        return sequence.size();
    }

    int moves(int step) {
        needStep(step);
        int set = 0;
        for (Move m : sequence.get(step).moves) {
            set += 1 << m.cylinder;
        }
        return set;
    }

    int direction(int step, int cylinder) {
        needStep(step);
        needCylinder(cylinder);
        Move m = sequence.get(step).of(cylinder);
        return m == null ? 0 : m.plus ? 1 : -1;
    }

    int pause(int step) {
        needStep(step);
        return sequence.get(step).pause;
    }

    int clashes() {
        needSequence();
        int count = 0;
        for (int i = 0; i < sequence.size(); i++) {
            for (Move m : sequence.get(i).moves) {
                count += clash(i, m.cylinder) >= 0 ? 1 : 0;
            }
        }
        return count;
    }

    int clash(int step, int cylinder) {
        needStep(step);
        needCylinder(cylinder);
        boolean[] out = new boolean[6];
        for (int i = 0; i < step; i++) {
            for (Move m : sequence.get(i).moves) {
                out[m.cylinder] = m.plus;
            }
        }
        Move mine = sequence.get(step).of(cylinder);
        int n = sequence.size();
        for (int j = 0; j < n && mine != null; j++) {
            Move other = sequence.get(j).of(cylinder);
            Step before = sequence.get((j + n - 1) % n);
            boolean given = before.pause == 0;
            for (Move m : before.moves) {
                given &= out[m.cylinder] == m.plus;
            }
            if (other != null && other.plus != mine.plus && given) {
                return j;
            }
        }
        return -1;
    }

    int groups() {
        needSequence();
        return cuts.size();
    }

    int cut(int i) {
        need(i >= 0 && i < cuts.size(), Otherwise.INDEX);
        return cuts.get(i);
    }

    int groupOf(int step) {
        needStep(step);
        int group = cuts.size() - 1;
        for (int g = 0; g < cuts.size(); g++) {
            if (cuts.get(g) <= step) {
                group = g;
            }
        }
        return group;
    }

    int valves(int method) {
        needMethod(method);
        needSequence();
        Set<Integer> moving = new HashSet<>();
        for (Step step : sequence) {
            for (Move m : step.moves) {
                moving.add(m.cylinder);
            }
        }
        int more = method == 0 ? 0 : method == 1 ? cuts.size() - 1 : sequence.size();
        return moving.size() + more;
    }

    int setMethod(int method) {
        needMethod(method);
        int before = rig.method;
        rig.method = method;
        rig.rest();
        return before;
    }

    int setStroke(int cylinder, int value) {
        needCylinder(cylinder);
        need(value >= 1 && value <= 20, Otherwise.ARGUMENT);
        int before = stroke[cylinder];
        stroke[cylinder] = value;
        rig.rest();
        return before;
    }

    boolean setStart(boolean on) {
        boolean before = rig.start;
        rig.start = on;
        return before;
    }

    boolean setFault(int cylinder, int kind, boolean on) {
        needCylinder(cylinder);
        need(kind >= 0 && kind <= 4, Otherwise.ARGUMENT);
        boolean before = rig.fault[cylinder][kind];
        rig.fault[cylinder][kind] = on;
        return before;
    }

    int rest() {
        int before = rig.time;
        rig.rest();
        return before;
    }

    int ticks(int n) {
        need(n >= 0 && n <= 5000, Otherwise.ARGUMENT);
        needSequence();
        int before = rig.events.size();
        for (int i = 0; i < n; i++) {
            rig.tick();
        }
        return rig.events.size() - before;
    }

    int time() {
        return rig.time;
    }

    int position(int cylinder) {
        needCylinder(cylinder);
        return rig.position[cylinder];
    }

    boolean isOut(int cylinder) {
        needCylinder(cylinder);
        return rig.valve[cylinder];
    }

    boolean sensor(int cylinder, int sensor) {
        needCylinder(cylinder);
        need(sensor == 0 || sensor == 1, Otherwise.INDEX);
        return rig.sensor(cylinder, sensor);
    }

    int timer(int step) {
        needStep(step);
        return rig.timer[step];
    }

    int active() {
        return rig.active;
    }

    int commands(int cylinder) {
        needCylinder(cylinder);
        return (rig.command[cylinder][1] ? 1 : 0) + (rig.command[cylinder][0] ? 2 : 0);
    }

    int events() {
        return rig.events.size();
    }

    private int eventPart(int i, int part) {
        need(i >= 0, Otherwise.INDEX);
        return i >= 40 || i >= rig.events.size() ? -1 : rig.events.get(rig.events.size() - 1 - i)[part];
    }

    int eventTime(int i) {
        return eventPart(i, 0);
    }

    int eventMove(int i) {
        return eventPart(i, 1);
    }

    int rightEvents() {
        return rig.right;
    }

    int cycles() {
        return rig.cycles;
    }

    int quiet() {
        return rig.time - rig.lastMoved;
    }

    private Run trial(int method) {
        Run run = new Run();
        run.method = method;
        run.start = true;
        run.rest();
        return run;
    }

    boolean works(int method) {
        needMethod(method);
        needSequence();
        return cycleTime(method) != -1;
    }

    int cycleTime(int method) {
        needMethod(method);
        needSequence();
        Run run = trial(method);
        for (int i = 0; i < 4000 && run.cycles < 2 && !run.wrong; i++) {
            run.tick();
        }
        return run.cycles < 2 ? -1 : run.cycleTimes.get(1) - run.cycleTimes.get(0);
    }

    int cheapest() {
        needSequence();
        int best = -1;
        for (int method = 2; method >= 0; method--) {
            if (works(method) && (best == -1 || valves(method) <= valves(best))) {
                best = method;
            }
        }
        return best;
    }

    private Run faulty(int cylinder, int kind, int n) {
        Run run = trial(rig.method);
        run.fault[cylinder][kind] = true;
        for (int i = 0; i < n; i++) {
            run.tick();
        }
        return run;
    }

    int effect(int cylinder, int kind, int n) {
        needCylinder(cylinder);
        need(kind >= 0 && kind <= 4 && n >= 0 && n <= 2000, Otherwise.ARGUMENT);
        needSequence();
        return faulty(cylinder, kind, n).right;
    }

    int suspect(int i) {
        need(i >= 0, Otherwise.INDEX);
        needSequence();
        List<Integer> found = new ArrayList<>();
        for (int c = 0; c < 6; c++) {
            for (int kind = 0; kind < 5; kind++) {
                Run run = faulty(c, kind, Math.min(5000, rig.time));
                if (java.util.Arrays.equals(run.position, rig.position)
                        && java.util.Arrays.equals(run.valve, rig.valve)) {
                    found.add(10 * c + kind);
                }
            }
        }
        return i < found.size() ? found.get(i) : -1;
    }

    long fingerprint() {
        List<Integer> numbers = new ArrayList<>(
                List.of(time(), active(), events(), rightEvents(), cycles(), quiet()));
        for (int c = 0; c < 6; c++) {
            numbers.add(position(c));
            numbers.add(isOut(c) ? 1 : 0);
            numbers.add(commands(c));
        }
        for (int i = 0; i < sequence.size(); i++) {
            numbers.add(timer(i));
        }
        long print = 19;
        for (int number : numbers) {
            print = print * 31 + number;
        }
        return print;
    }
}
