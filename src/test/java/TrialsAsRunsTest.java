import java.util.ArrayList;
import java.util.List;

/** What a trial answers must be what the same run shows on a bench of its own, tick by tick. */
public final class TrialsAsRunsTest {
    private static final String[] TEXTS = {"A+A-", "A+B+B-A-", "A+B+A-B-", "T60A+T60A-", "A+T9(B+C+)T2(A-B-)C-T13",
        "A+(A-B+)(A+B-)A-", "A+A-C+C-", "T9B+B-A+A-", "A+T60T60A-T60", "(A+B+C+D+E+F+)T7(A-C-E-)(B-D-F-)"};
    private static final int[] TIMES = {0, 1, 2, 5, 11, 23, 64, 129, 130, 131, 255, 256, 257, 700};

    /** The strokes of the first three cylinders. */
    private static int[] strokes = {3, 5, 1};

    private static SequenceBench bench(String text, int method) {
        SequenceBench bench = new SequenceBench();
        for (int c = 0; c < strokes.length; c++) {
            bench.setStroke(c, strokes[c]);
        }
        bench.setMethod(method);
        text.chars().forEach(bench::type);
        bench.readSequence();
        return bench;
    }

    public static void main(String[] args) {
        for (String text : TEXTS) {
            for (int method = 0; method < 3; method++) {
                compareWorks(text, method);
                compareEffect(text, method);
                for (int time : TIMES) {
                    compareSuspect(text, method, time, (time + method) % 6, time % 5);
                    compareSuspect(text, method, time, time % 2, (time + method) % 5);
                }
                compareSuspect(text, method, 5003, 0, 3);
            }
        }
        comparePeriods();
        Script.end();
    }

    /**
     * In A+B+B-A- the same positions and valves come twice in a cycle, with something else active. The strokes
     * shift the period against the ticks at which suspect() looks for a former state. With six cylinders under
     * way, only the positions tell two ticks of a stroke apart.
     */
    private static void comparePeriods() {
        for (int a = 1; a <= 5; a++) {
            for (int b = 1; b <= 5; b++) {
                strokes = new int[] {a, b, 3};
                for (int method = 0; method < 3; method++) {
                    compareSuspect("A+B+B-A-", method, 101, 5, 0);
                    compareSuspect("A+B+B-A-", method, 103, 5, 0);
                    compareSuspect("(A+B+C+D+E+F+)(A-B-C-D-E-F-)", method, 107, 0, 4);
                }
            }
        }
    }

    private static void compareWorks(String text, int method) {
        int first = ticksFor(1, text, method);
        int second = ticksFor(2, text, method);
        SequenceBench bench = bench(text, (method + 1) % 3);
        Script.due("works " + text + " " + method, bench.works(method), second <= 4000);
        Script.due("cycleTime " + text + " " + method, bench.cycleTime(method), second <= 4000 ? second - first : -1);
    }

    /** After how many ticks so many cycles are made: no cycle is made behind a wrong event. 4001 if they never are. */
    private static int ticksFor(int cycles, String text, int method) {
        int least = 1;
        int most = 4001;
        while (least < most) {
            int middle = (least + most) / 2;
            SequenceBench run = bench(text, method);
            run.ticks(middle);
            if (run.cycles() >= cycles) {
                most = middle;
            } else {
                least = middle + 1;
            }
        }
        return least;
    }

    private static void compareEffect(String text, int method) {
        SequenceBench bench = bench(text, method);
        bench.setFault(0, 0, true);
        bench.ticks(7);
        for (int cylinder = 0; cylinder < 6; cylinder++) {
            for (int kind = 0; kind < 5; kind++) {
                for (int n : new int[] {1, 65, 500}) {
                    SequenceBench run = bench(text, method);
                    run.setFault(cylinder, kind, true);
                    run.ticks(n);
                    Script.due("effect " + text + " " + method + " " + cylinder + " " + kind + " " + n,
                            bench.effect(cylinder, kind, n), run.rightEvents());
                }
            }
        }
    }

    private static void compareSuspect(String text, int method, int time, int faulty, int faultKind) {
        SequenceBench bench = bench(text, method);
        bench.setFault(faulty, faultKind, true);
        for (int left = time; left > 0; left -= 5000) {
            bench.ticks(Math.min(left, 5000));
        }
        List<Integer> due = new ArrayList<>();
        for (int cylinder = 0; cylinder < 6; cylinder++) {
            for (int kind = 0; kind < 5; kind++) {
                SequenceBench run = bench(text, method);
                run.setFault(cylinder, kind, true);
                run.ticks(Math.min(time, 5000));
                if (lookAlike(bench, run)) {
                    due.add(10 * cylinder + kind);
                }
            }
        }
        due.add(-1);
        List<Integer> got = new ArrayList<>();
        for (int i = 0; i < due.size(); i++) {
            got.add(bench.suspect(i));
        }
        Script.due("suspect " + text + " " + method + " " + time + " " + faulty + " " + faultKind, got, due);
    }

    private static boolean lookAlike(SequenceBench one, SequenceBench other) {
        boolean same = true;
        for (int c = 0; c < 6; c++) {
            same = same && one.position(c) == other.position(c) && one.isOut(c) == other.isOut(c);
        }
        return same;
    }
}
