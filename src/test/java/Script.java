import java.lang.reflect.InvocationTargetException;
import java.lang.reflect.Method;

/**
 * Runs calls that are written as in the document's examples, each run on a new bench:
 * "type(65) = 1; ticks(1) = throws IllegalStateException". The row "read TEXT = 4" types the text
 * and checks what readSequence() answers; a row without "=" is called, and its answer is not looked at.
 * Where a row wants an exception, the state is looked at before and behind the call too.
 */
final class Script {
    private static int wrong = 0;
    private static int rows = 0;

    private Script() {
    }

    static void run(String title, String... parts) {
        SequenceBench bench = new SequenceBench();
        for (String row : String.join(";", parts).split(";")) {
            if (!row.isBlank()) {
                check(title, bench, row.trim());
            }
        }
    }

    /** The same row several times, for a script. */
    static String times(int n, String row) {
        return (row + ";").repeat(n);
    }

    /** Types a text without reading it. */
    static String typed(String text) {
        StringBuilder rows = new StringBuilder();
        for (char c : text.toCharArray()) {
            rows.append("type(").append((int) c).append(");");
        }
        return rows.toString();
    }

    static void due(String title, Object got, Object want) {
        rows++;
        if (!got.equals(want)) {
            wrong++;
            System.out.println(title + ": answered " + got + ", due is " + want);
        }
    }

    static void end() {
        System.out.println(rows + " rows looked at, " + wrong + " wrong");
        if (wrong != 0 || rows == 0) {
            System.exit(1);
        }
    }

    private static void check(String title, SequenceBench bench, String row) {
        int sign = row.lastIndexOf(" = ");
        String call = sign < 0 ? row : row.substring(0, sign).trim();
        String want = sign < 0 ? null : row.substring(sign + 3).trim();
        boolean refused = want != null && want.startsWith("throws ");
        String before = refused ? State.of(bench) : "";
        String got = call.startsWith("read ") ? read(bench, call.substring(5)) : answer(bench, call);
        if (want != null) {
            due(title + ": " + call, got, want);
        }
        if (refused) {
            due(title + ": state behind " + call, State.of(bench), before);
        }
    }

    private static String read(SequenceBench bench, String text) {
        for (char c : text.toCharArray()) {
            bench.type(c);
        }
        return String.valueOf(bench.readSequence());
    }

    static String answer(SequenceBench bench, String call) {
        String name = call.substring(0, call.indexOf('('));
        String inside = call.substring(call.indexOf('(') + 1, call.lastIndexOf(')')).trim();
        String[] given = inside.isEmpty() ? new String[0] : inside.split("\\s*,\\s*");
        try {
            Method method = find(name);
            Object[] values = new Object[given.length];
            for (int i = 0; i < given.length; i++) {
                boolean truth = method.getParameterTypes()[i] == boolean.class;
                values[i] = truth ? (Object) Boolean.valueOf(given[i]) : (Object) Integer.valueOf(given[i]);
            }
            return String.valueOf(method.invoke(bench, values));
        } catch (InvocationTargetException e) {
            return "throws " + e.getCause().getClass().getSimpleName();
        } catch (IllegalAccessException e) {
            throw new IllegalStateException(call, e);
        }
    }

    private static Method find(String name) {
        for (Method method : SequenceBench.class.getDeclaredMethods()) {
            if (method.getName().equals(name)) {
                return method;
            }
        }
        throw new IllegalStateException("no method " + name);
    }
}
