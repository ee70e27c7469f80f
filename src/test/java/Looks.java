import java.util.List;

/**
 * What later calls show of a bench, as rows of calls. Each look is made on a bench of its own, so it may
 * change what it looks at.
 */
final class Looks {
    static final String ERROR_KIND = "errorKind()";
    private static final List<String> ALL = List.of(ERROR_KIND, numbers(), steps(), moves(), cylinders(), faults(),
            events(), "clearText(); type(66)",
            "readSequence(); errorKind(); steps(); moves(0); moves(1); fingerprint()",
            settings(), later(), behindRest(), trials());

    private Looks() {
    }

    static List<String> all() {
        return ALL;
    }

    private static String numbers() {
        return "steps(); time(); active(); events(); rightEvents(); cycles(); quiet(); fingerprint(); clashes();"
                + "groups(); valves(0); valves(1); valves(2); setStart(true)";
    }

    private static String steps() {
        StringBuilder rows = new StringBuilder();
        for (int step = 0; step <= 16; step++) {
            for (String name : List.of("moves", "pause", "timer", "groupOf", "cut")) {
                rows.append(name).append('(').append(step).append(");");
            }
        }
        return rows.toString();
    }

    private static String moves() {
        StringBuilder rows = new StringBuilder();
        for (int step = 0; step < 16; step++) {
            for (int c = 0; c < 6; c++) {
                rows.append("direction(" + step + ", " + c + "); clash(" + step + ", " + c + ");");
            }
        }
        return rows.toString();
    }

    private static String cylinders() {
        StringBuilder rows = new StringBuilder();
        for (int c = 0; c < 6; c++) {
            rows.append("position(" + c + "); isOut(" + c + "); commands(" + c + ");");
            rows.append("sensor(" + c + ", 0); sensor(" + c + ", 1);");
        }
        return rows.toString();
    }

    private static String faults() {
        StringBuilder rows = new StringBuilder();
        for (int c = 0; c < 6; c++) {
            for (int kind = 0; kind < 5; kind++) {
                rows.append("setFault(" + c + ", " + kind + ", false);");
            }
        }
        return rows.toString();
    }

    private static String events() {
        StringBuilder rows = new StringBuilder();
        for (int i = 0; i <= 40; i++) {
            rows.append("eventTime(" + i + "); eventMove(" + i + ");");
        }
        return rows.toString();
    }

    private static String settings() {
        StringBuilder rows = new StringBuilder("setMethod(0);");
        for (int c = 0; c < 6; c++) {
            rows.append("setStroke(" + c + ", 3);");
        }
        return rows.toString();
    }

    private static String later() {
        StringBuilder rows = new StringBuilder();
        for (int i = 0; i < 20; i++) {
            rows.append("ticks(1); fingerprint();");
        }
        return rows.append("ticks(100); fingerprint(); setStart(true); ticks(31); fingerprint();").toString();
    }

    private static String behindRest() {
        return "rest(); fingerprint(); ticks(7); fingerprint(); ticks(70); fingerprint()";
    }

    private static String trials() {
        return "works(0); works(1); works(2); cycleTime(0); cycleTime(1); cycleTime(2); cheapest();"
                + "effect(0, 0, 50); effect(1, 4, 90); suspect(0); suspect(1); suspect(2); suspect(9)";
    }
}
