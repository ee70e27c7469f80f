/** Promises 1 to 9: a new bench, the text, and what is read from it. */
public final class TextPromisesTest {
    private static final String IAE = "throws IllegalArgumentException";
    private static final String ISE = "throws IllegalStateException";
    private static final String INDEX = "throws IndexOutOfBoundsException";

    public static void main(String[] args) {
        newObject();
        type();
        clearText();
        rightTexts();
        signErrors();
        pauseErrors();
        tooManySteps();
        moveErrors();
        endErrors();
        whatReadingChanges();
        errorKind();
        lookAtSteps();
        Script.end();
    }

    private static void newObject() {
        Script.run("promise 1", "steps() = 0; errorKind() = 0; clearText() = 0; time() = 0; active() = -1",
                "events() = 0; rightEvents() = 0; cycles() = 0; quiet() = 0; eventTime(0) = -1; eventMove(0) = -1",
                "setStart(true) = true; setMethod(1) = 1");
        for (int c = 0; c < 6; c++) {
            Script.run("promise 1, cylinder " + c, "position(" + c + ") = 0; isOut(" + c + ") = false",
                    "commands(" + c + ") = 0; sensor(" + c + ", 0) = true; sensor(" + c + ", 1) = false",
                    "setStroke(" + c + ", 3) = 3");
            for (int kind = 0; kind < 5; kind++) {
                Script.run("promise 1, fault", "setFault(" + c + ", " + kind + ", false) = false");
            }
        }
    }

    private static void type() {
        Script.run("promise 2", "type(32) = 1; type(126) = 2; type(65) = 3; type(32) = 4; clearText() = 4");
        Script.run("promise 2, codes out of range", "type(65) = 1",
                "type(31) = " + IAE, "type(127) = " + IAE, "type(-1) = " + IAE, "type(0) = " + IAE,
                "type(321) = " + IAE, "type(-2147483648) = " + IAE, "type(2147483647) = " + IAE, "clearText() = 1");
        Script.run("promise 2, a full text", Script.times(79, "type(65)"), "type(66) = 80",
                "type(65) = " + ISE, "type(65) = " + ISE, "type(31) = " + IAE, "clearText() = 80; type(65) = 1");
    }

    private static void clearText() {
        Script.run("promise 3", "clearText() = 0; type(65); type(43); clearText() = 2; clearText() = 0; type(65) = 1");
        Script.run("promise 3, the old characters are gone", Script.typed("A+xx"), "clearText() = 4; read A+A- = 2");
        Script.run("promise 3, nothing else", "read A+A- = 2; ticks(4); read A+ = -3; clearText() = 2",
                "errorKind() = 3; steps() = 2; time() = 4; position(0) = 2");
    }

    private static void right(String text, int steps) {
        Script.reads("promise 4", text, steps);
    }

    private static void refused(String text, int kind, int position) {
        Script.refuses("promise 4", text, kind, position);
    }

    private static void rightTexts() {
        right("A+A-", 2);
        right("F+F-", 2);
        right("A+B+B-A-", 4);
        right("(A+B+)(B-A-)", 2);
        right("(A+B+C+D+E+F+)(F-E-D-C-B-A-)", 2);
        right("T1A+A-", 3);
        right("A+T60A-", 3);
        right("A+A-T9", 3);
        right("T05A+A-", 3);
        right("A+T10T01A-", 4);
        right("A+(A-B+)(B-A+)A-", 4);
        right("A+A-".repeat(8), 16);
        right("(A+B+)T1(A-B-)", 3);
        right("A+A-".repeat(7) + "T1T10", 16);
        right("(A+B+C+D+E+F+)(A-B-C-D-E-F-)(A+B+C+D+E+F+)(A-B-)(C-D-)T10T10T10(E-F-)", 9);
    }

    private static void signErrors() {
        refused("", 1, 0);
        refused("A", 1, 1);
        refused("G+", 1, 0);
        refused("@+", 1, 0);
        refused("a+a-", 1, 0);
        refused("+", 1, 0);
        refused("A*", 1, 1);
        refused("AA+", 1, 1);
        refused(" A+A-", 1, 0);
        refused("A+ A-", 1, 2);
        refused("A+A- ", 1, 4);
        refused("A+,A-", 1, 2);
        refused("A+A", 1, 3);
        refused("A+A-)", 1, 4);
        refused("(", 1, 1);
        refused("()", 1, 1);
        refused("(A", 1, 2);
        refused("(A+", 1, 3);
        refused("(A+)", 1, 3);
        refused("A+(B+)B-A-", 1, 5);
        refused("(A+B", 1, 4);
        refused("(A+B+", 1, 5);
        refused("((A+B+)", 1, 1);
        refused("(A+(B+C+))", 1, 3);
        refused("(A+T1)", 1, 3);
        refused("(T1A+)", 1, 1);
        refused("(A+B+T1)", 1, 5);
        refused("(A+G+)", 1, 3);
        refused("(A+,B+)", 1, 3);
    }

    private static void pauseErrors() {
        refused("T", 1, 1);
        refused("TA+A-", 1, 1);
        refused("T+1", 1, 1);
        refused("t1A+A-", 1, 0);
        refused("T0", 1, 1);
        refused("T0A+A-", 1, 1);
        refused("T00", 1, 1);
        refused("T000", 1, 1);
        refused("T005", 1, 1);
        refused("T61", 1, 1);
        refused("T610", 1, 1);
        refused("A+T99A-", 1, 3);
        refused("A+T0A-", 1, 3);
        refused("A+T", 1, 3);
        refused("T100A+A-", 1, 3);
        refused("T050", 1, 3);
        refused("A+T601A-", 1, 5);
        refused("5A+A-", 1, 0);
    }

    private static void tooManySteps() {
        String sixteen = "A+A-".repeat(8);
        refused(sixteen + "A", 1, 32);
        refused(sixteen + "A+A-", 1, 32);
        refused(sixteen + "A-", 1, 32);
        refused(sixteen + "T", 1, 32);
        refused(sixteen + "(", 1, 32);
        refused(sixteen + "?", 1, 32);
        refused("A+A-".repeat(7) + "T1T101", 1, 33);
        refused("A+A-".repeat(7) + "A+T1T1", 1, 32);
        refused("T1".repeat(17), 1, 32);
    }

    private static void moveErrors() {
        refused("A-", 2, 0);
        refused("A-A+", 2, 0);
        refused("A+A+", 2, 2);
        refused("A+A-A-", 2, 4);
        refused("A+B-", 2, 2);
        refused("A+T5A+", 2, 4);
        refused("(A+A-)", 2, 3);
        refused("(A+A+)", 2, 3);
        refused("A+(A-A+)", 2, 5);
        refused("A+(B+B-)A-", 2, 5);
        refused("(A+B+A-)B-", 2, 5);
        refused("(A+B+C+D+E+F+A-)", 2, 13);
        refused("A+(A+B+)", 2, 3);
        refused("(A+B+)(A-B+)", 2, 9);
        refused("A+A+B-B-", 2, 2);
        refused("B+A-(A-A-)", 2, 2);
        refused("A+A+B+", 2, 2);
        refused("A+A+x", 1, 4);
        refused("A-(B+)", 1, 5);
        refused("A-A-T0", 1, 5);
        refused("(A+A-)T", 1, 7);
    }

    private static void endErrors() {
        refused("A+", 3, 2);
        refused("A+B+A-", 3, 6);
        refused("(A+B+)B-", 3, 8);
        refused("A+A-F+", 3, 6);
        refused("A+T5", 3, 4);
        refused("T9", 3, 2);
        refused("T1T2T60", 3, 7);
        refused("T1".repeat(16), 3, 32);
    }

    private static void whatReadingChanges() {
        Script.run("promise 4, the text stays", "read A+ = -3; readSequence() = -3; type(65) = 3; type(45) = 4",
                "readSequence() = 2; errorKind() = 0");
        Script.run("promise 4, the text is empty then", "read A+A- = 2; clearText() = 0; read B+B- = 2; moves(0) = 2");
        Script.unchanged("promise 4, an error changes only errorKind()",
                "setMethod(0); setStroke(0, 5); read A+T4B+A-B- = 5; setFault(1, 0, true); ticks(7); "
                + Script.typed("A+x"), "readSequence()", Looks.ERROR_KIND);
        Script.run("promise 4, to rest, and the settings stay",
                "read A+A- = 2; setMethod(2) = 1; setStroke(0, 7) = 3; setFault(0, 3, true) = false",
                "setStart(false) = true; setStart(true) = false; ticks(9) = 1; setStart(false) = true",
                "read B+A+A-B- = 4; time() = 0; events() = 0; position(0) = 0; isOut(0) = false; active() = -1",
                "quiet() = 0; rightEvents() = 0; commands(0) = 0; eventTime(0) = -1; eventMove(0) = -1",
                "setStart(true) = false; setFault(0, 3, true) = true; setStroke(0, 3) = 7; setMethod(0) = 2");
        Script.run("promise 4, a shorter sequence leaves nothing of the longer one",
                "read (A+B+)T5(A-B-)T7C+C- = 6; read D+D- = 2; steps() = 2; moves(0) = 8; pause(1) = 0",
                "moves(2) = " + INDEX, "groups() = 2; valves(0) = 1; clashes() = 0; read E+F+E-F- = 4; pause(1) = 0",
                "pause(3) = 0; moves(0) = 16; moves(2) = 16; ticks(9) = 3; timer(1) = 0");
    }

    private static void errorKind() {
        Script.run("promise 5", "errorKind() = 0; read A+x = -3; errorKind() = 1; clearText() = 3; errorKind() = 1",
                "read A+A+ = -3; errorKind() = 2; clearText(); read A+ = -3; errorKind() = 3; type(65); type(45)",
                "errorKind() = 3; readSequence() = 2; errorKind() = 0; readSequence() = -1; errorKind() = 1",
                "rest(); ticks(3); errorKind() = 1; steps() = 2");
    }

    private static void lookAtSteps() {
        Script.run("promise 6", "steps() = 0; read A+T3A- = 3; steps() = 3; read A+ = -3; steps() = 3");
        String read = "read (A+C+F+)T17(F-A-)B+(C-B-)T08 = 6";
        Script.run("promise 7", read, "moves(0) = 37; moves(1) = 0; moves(2) = 33; moves(3) = 2; moves(4) = 6",
                "moves(5) = 0", "moves(6) = " + INDEX, "moves(-1) = " + INDEX, "moves(16) = " + INDEX,
                "moves(-2147483648) = " + INDEX, "moves(2147483647) = " + INDEX);
        Script.run("promise 8", read, "direction(0, 0) = 1; direction(0, 1) = 0; direction(0, 2) = 1",
                "direction(0, 5) = 1; direction(1, 0) = 0; direction(2, 5) = -1; direction(2, 0) = -1",
                "direction(2, 2) = 0; direction(3, 1) = 1; direction(4, 1) = -1; direction(4, 2) = -1",
                "direction(5, 5) = 0", "direction(6, 0) = " + INDEX, "direction(-1, 0) = " + INDEX,
                "direction(0, 6) = " + INDEX, "direction(0, -1) = " + INDEX, "direction(0, 32) = " + INDEX,
                "direction(0, 2147483647) = " + INDEX, "direction(-2147483648, 0) = " + INDEX);
        Script.run("promise 9", read, "pause(0) = 0; pause(1) = 17; pause(4) = 0; pause(5) = 8",
                "pause(6) = " + INDEX, "pause(-1) = " + INDEX, "pause(2147483647) = " + INDEX);
        Script.run("promises 7 to 9 without a sequence", "moves(0) = " + INDEX, "direction(0, 0) = " + INDEX,
                "pause(0) = " + INDEX);
        Script.run("promise 9, the edges", "read A+T1A-T60 = 4; pause(1) = 1; pause(3) = 60");
    }
}
