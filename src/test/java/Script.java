import java.lang.reflect.InvocationTargetException;
import java.lang.reflect.Method;
import java.util.ArrayList;
import java.util.List;

/**
 * Runs calls that are written as in the document's examples, each run on a new bench:
 * "type(65) = 1; ticks(1) = throws IllegalStateException". The row "read TEXT = 4" types the text
 * and checks what readSequence() answers; a row without "=" is called, and its answer is not looked at.
 * INDEX, IAE and ISE stand for the three exceptions. Where a row wants an exception, all that later
 * calls show is compared with a run without this row.
 */
final class Script {
    /** The document promises nothing beyond it, so no test may look there. */
    private static final int MOST_CALLS = 512;
    private static int wrong = 0;
    private static int rows = 0;

    /** A bench that counts its calls. */
    private static final class Counted {
        final SequenceBench bench = new SequenceBench();
        int calls = 0;

        String answer(String call) {
            calls++;
            if (calls > MOST_CALLS) {
                throw new IllegalStateException("more than 512 calls: " + call);
            }
            return Script.answer(bench, call);
        }

        String row(String call) {
            if (!call.startsWith("read ")) {
                return answer(call);
            }
            for (String typing : rowsOf(typed(call.substring(5)))) {
                answer(typing);
            }
            return answer("readSequence()");
        }
    }

    private Script() {
    }

    static void run(String title, String... parts) {
        Counted bench = new Counted();
        StringBuilder before = new StringBuilder();
        for (String row : rowsOf(String.join(";", parts))) {
            String call = callOf(row);
            String want = wantOf(row);
            String got = bench.row(call);
            if (want != null) {
                due(title + ": " + call, got, want);
            }
            if (want != null && want.startsWith("throws ")) {
                unchanged(title, before.toString(), call);
            } else {
                before.append(call).append(';');
            }
        }
    }

    /** Behind the set-up, the calls change nothing that a later call shows, but for the looks left out. */
    static void unchanged(String title, String setUp, String calls, String... leftOut) {
        same(title + ": behind " + calls, setUp + ";" + calls, setUp, leftOut);
    }

    /** Two runs lead to the same, as far as later calls show it. */
    static void same(String title, String one, String other, String... leftOut) {
        for (String look : Looks.all()) {
            if (!List.of(leftOut).contains(look)) {
                due(title, answers(one, look), answers(other, look));
            }
        }
    }

    private static String answers(String setUp, String look) {
        Counted bench = new Counted();
        for (String row : rowsOf(setUp)) {
            bench.row(callOf(row));
        }
        StringBuilder all = new StringBuilder();
        for (String row : rowsOf(look)) {
            all.append(row).append(" = ").append(bench.row(row)).append("; ");
        }
        return all.toString();
    }

    private static List<String> rowsOf(String script) {
        List<String> found = new ArrayList<>();
        for (String row : script.split(";")) {
            if (!row.isBlank()) {
                found.add(row.trim());
            }
        }
        return found;
    }

    private static String callOf(String row) {
        int sign = row.lastIndexOf(" = ");
        return sign < 0 ? row : row.substring(0, sign).trim();
    }

    private static String wantOf(String row) {
        int sign = row.lastIndexOf(" = ");
        String want = sign < 0 ? "" : row.substring(sign + 3).trim();
        switch (want) {
            case "":
                return null;
            case "INDEX":
                return "throws IndexOutOfBoundsException";
            case "IAE":
                return "throws IllegalArgumentException";
            case "ISE":
                return "throws IllegalStateException";
            default:
                return want;
        }
    }

    /** The text is a sequence of so many steps. */
    static void reads(String title, String text, int steps) {
        run(title + ", " + text, typed(text), "readSequence() = " + steps, "errorKind() = 0; steps() = " + steps,
                "clearText() = 0");
    }

    /** The text has this error. */
    static void refuses(String title, String text, int kind, int position) {
        run(title + ", " + text, typed(text), "readSequence() = " + (-1 - position), "errorKind() = " + kind,
                "steps() = 0; clearText() = " + text.length());
    }

    /** The same row several times, for a script. */
    static String times(int n, String row) {
        return (row + ";").repeat(n);
    }

    /** Types a text without reading it. */
    static String typed(String text) {
        StringBuilder typing = new StringBuilder();
        for (char c : text.toCharArray()) {
            typing.append("type(").append((int) c).append(");");
        }
        return typing.toString();
    }

    static void due(String title, Object got, Object want) {
        rows++;
        if (!got.equals(want)) {
            wrong++;
            System.out.println(title + ": answered " + got + ", due is " + want);
        }
    }

    static void end() {
        System.out.println(rows + " rows looked at, " + wrong + " wrong");
        if (wrong != 0 || rows == 0) {
            System.exit(1);
        }
    }

    /** One call, such as "clash(2, 1)", on a bench; an exception is answered as "throws" and its name. */
    static String answer(SequenceBench bench, String call) {
        String name = call.substring(0, call.indexOf('('));
        String inside = call.substring(call.indexOf('(') + 1, call.lastIndexOf(')')).trim();
        String[] given = inside.isEmpty() ? new String[0] : inside.split("\\s*,\\s*");
        try {
            Method method = find(name);
            Object[] values = new Object[given.length];
            for (int i = 0; i < given.length; i++) {
                boolean truth = method.getParameterTypes()[i] == boolean.class;
                values[i] = truth ? (Object) Boolean.valueOf(given[i]) : (Object) Integer.valueOf(given[i]);
            }
            return String.valueOf(method.invoke(bench, values));
        } catch (InvocationTargetException e) {
            return "throws " + e.getCause().getClass().getSimpleName();
        } catch (IllegalAccessException e) {
            throw new IllegalStateException(call, e);
        }
    }

    private static Method find(String name) {
        for (Method method : SequenceBench.class.getDeclaredMethods()) {
            if (method.getName().equals(name)) {
                return method;
            }
        }
        throw new IllegalStateException("no method " + name);
    }
}
