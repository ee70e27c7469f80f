import java.lang.reflect.InvocationTargetException;
import java.lang.reflect.Method;
import java.util.ArrayList;
import java.util.List;
import java.util.Random;

/** Runs of calls drawn from fixed seeds, on the class and on the plain model: every answer must agree. */
public final class RandomRunsTest {
    private static final int RUNS = 400;
    /** Room for one text more keeps a run within the 512 calls that the document speaks of. */
    private static final int CALLS = 512 - 84;
    private static final String[] PLAIN = {
        "errorKind", "steps", "clashes", "groups", "time", "active", "events", "rightEvents", "cycles", "quiet",
        "cheapest", "fingerprint"};
    private static final String[] OF_STEP = {"moves", "pause", "groupOf", "cut", "timer"};
    private static final String[] OF_CYLINDER = {"position", "isOut", "commands"};
    private static final String[] OF_METHOD = {"valves", "works", "cycleTime"};

    private static final List<String> history = new ArrayList<>();
    private static int wrong = 0;
    private static int rows = 0;

    public static void main(String[] args) {
        for (int run = 0; run < RUNS && wrong < 5; run++) {
            play(run, new Random(1000L + run));
        }
        compareTexts(new Random(7));
        System.out.println(rows + " answers compared with the plain model, " + wrong + " wrong");
        if (wrong != 0 || rows == 0) {
            System.exit(1);
        }
    }

    private static void play(int run, Random random) {
        SequenceBench bench = new SequenceBench();
        PlainModel model = new PlainModel();
        history.clear();
        int before = wrong;
        boolean begun = random.nextInt(8) != 0;
        if (begun) {
            typeAndRead(bench, model, Texts.sequence(random), run);
        }
        while (history.size() < CALLS && wrong == before) {
            int kind = random.nextInt(60);
            if (kind == 0) {
                typeAndRead(bench, model, Texts.any(random), run);
            } else {
                compare(bench, model, draw(random, kind), run);
            }
            compare(bench, model, "fingerprint()", run);
        }
    }

    private static void typeAndRead(SequenceBench bench, PlainModel model, String text, int run) {
        for (char c : text.toCharArray()) {
            compare(bench, model, "type(" + (int) c + ")", run);
        }
        compare(bench, model, "readSequence()", run);
        compare(bench, model, "errorKind()", run);
    }

    private static String draw(Random r, int kind) {
        if (kind < 14) {
            return "ticks(" + number(r, 0, r.nextInt(40) == 0 ? 5000 : 25) + ")";
        }
        if (kind < 18) {
            return "setFault(" + number(r, 0, 5) + ", " + number(r, 0, 4) + ", " + (r.nextInt(3) == 0) + ")";
        }
        if (kind == 18) {
            return r.nextBoolean() ? "setMethod(" + number(r, 0, 2) + ")" : "rest()";
        }
        if (kind == 19) {
            return "setStroke(" + number(r, 0, 5) + ", " + number(r, 1, 20) + ")";
        }
        if (kind < 22) {
            return "setStart(" + (r.nextInt(4) != 0) + ")";
        }
        if (kind < 24) {
            return "suspect(" + number(r, 0, r.nextInt(3) == 0 ? 30 : 3) + ")";
        }
        if (kind < 27) {
            int most = r.nextInt(10) == 0 ? 2000 : 90;
            return "effect(" + number(r, 0, 5) + ", " + number(r, 0, 4) + ", " + number(r, 0, most) + ")";
        }
        return drawLook(r, kind);
    }

    private static String drawLook(Random r, int kind) {
        if (kind < 35) {
            return pick(r, PLAIN) + "()";
        }
        if (kind < 40) {
            return pick(r, OF_STEP) + "(" + number(r, 0, 15) + ")";
        }
        if (kind < 46) {
            return pick(r, OF_CYLINDER) + "(" + number(r, 0, 5) + ")";
        }
        if (kind < 48) {
            return pick(r, OF_METHOD) + "(" + number(r, 0, 2) + ")";
        }
        if (kind < 51) {
            return "sensor(" + number(r, 0, 5) + ", " + number(r, 0, 1) + ")";
        }
        if (kind < 54) {
            return (r.nextBoolean() ? "clash(" : "direction(") + number(r, 0, 15) + ", " + number(r, 0, 5) + ")";
        }
        if (kind < 58) {
            return (r.nextBoolean() ? "eventTime(" : "eventMove(") + number(r, 0, 45) + ")";
        }
        return kind == 58 ? "clearText()" : "type(" + number(r, 32, 126) + ")";
    }

    private static String pick(Random r, String[] names) {
        return names[r.nextInt(names.length)];
    }

    /** Mostly in the range, now and then beside it or far away. */
    private static int number(Random r, int least, int most) {
        switch (r.nextInt(40)) {
            case 0:
                return least - 1;
            case 1:
                return most + 1;
            case 2:
                return r.nextInt(4) == 0 ? Integer.MIN_VALUE : most;
            case 3:
                return r.nextInt(4) == 0 ? Integer.MAX_VALUE : least;
            default:
                return least + r.nextInt(most - least + 1);
        }
    }

    private static void compare(SequenceBench bench, PlainModel model, String call, int run) {
        history.add(call);
        rows++;
        String got = answer(bench, call);
        String due = answer(model, call);
        if (!got.equals(due)) {
            wrong++;
            System.out.println("run " + run + ": " + call + " answered " + got + ", the model says " + due);
            System.out.println("  behind " + history);
        }
    }

    private static String answer(Object target, String call) {
        String inside = call.substring(call.indexOf('(') + 1, call.length() - 1);
        String[] given = inside.isEmpty() ? new String[0] : inside.split(", ");
        Object[] values = new Object[given.length];
        Class<?>[] kinds = new Class<?>[given.length];
        for (int i = 0; i < given.length; i++) {
            boolean truth = given[i].equals("true") || given[i].equals("false");
            kinds[i] = truth ? boolean.class : int.class;
            values[i] = truth ? (Object) Boolean.valueOf(given[i]) : (Object) Integer.valueOf(given[i]);
        }
        try {
            Method method = target.getClass().getDeclaredMethod(call.substring(0, call.indexOf('(')), kinds);
            return String.valueOf(method.invoke(target, values));
        } catch (InvocationTargetException e) {
            return "throws " + e.getCause().getClass().getSimpleName();
        } catch (NoSuchMethodException | IllegalAccessException e) {
            throw new IllegalStateException(call, e);
        }
    }

    /** Many texts alone: most of them have an error. */
    private static void compareTexts(Random random) {
        for (int i = 0; i < 20000 && wrong < 5; i++) {
            String text = Texts.any(random);
            SequenceBench bench = new SequenceBench();
            for (char c : text.toCharArray()) {
                bench.type(c);
            }
            int[] error = PlainModel.errorOf(text);
            int got = bench.readSequence();
            rows++;
            if (error == null ? got < 0 : got != -1 - error[1] || bench.errorKind() != error[0]) {
                wrong++;
                System.out.println("text " + text + " answered " + got + ", kind " + bench.errorKind());
            }
        }
    }
}
