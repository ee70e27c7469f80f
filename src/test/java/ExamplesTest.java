/** The four examples of the document, with every answer that stands there. */
public final class ExamplesTest {
    public static void main(String[] args) {
        Script.run("example 1",
                "type(65) = 1; type(43) = 2; type(66) = 3; type(43) = 4; type(66) = 5; type(45) = 6; type(65) = 7;"
                + " type(45) = 8; readSequence() = 4; clashes() = 2; groups() = 2; cut(0) = 0; works(0) = false;"
                + " works(1) = true; cycleTime(1) = 12; cheapest() = 1");
        Script.run("example 2",
                "type(65) = 1; type(43) = 2; type(84) = 3; type(51) = 4; type(65) = 5; type(45) = 6;"
                + " readSequence() = 3; groups() = 2; ticks(5) = 1; position(0) = 3; active() = 1; ticks(20) = 5;"
                + " cycles() = 3; rightEvents() = 6; clearText() = 0");
        Script.run("example 3",
                "type(65) = 1; type(43) = 2; type(65) = 3; type(43) = 4; readSequence() = -3; errorKind() = 2;"
                + " clearText() = 4; readSequence() = -1; errorKind() = 1; ticks(1) = throws IllegalStateException;"
                + " active() = -1");
        Script.run("example 4",
                "type(65) = 1; type(43) = 2; type(65) = 3; type(45) = 4; readSequence() = 2;"
                + " setFault(0, 0, true) = false; ticks(9) = 1; suspect(0) = 0; suspect(1) = -1; suspect(2) = -1;"
                + " quiet() = 8");
        Script.end();
    }
}
