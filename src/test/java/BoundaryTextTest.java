/**
 * The sentences of 'Sequence' and 'Text' and of promises 1 to 9 that name a boundary case: each title
 * is the sentence, or its part, that would be broken.
 */
public final class BoundaryTextTest {
    private static final String SIXTEEN = "A+A-".repeat(8);
    /** 16 steps and 80 characters: both are the most that a text can have. */
    private static final String LONGEST = "(A+B+)(A-B-)".repeat(6) + "C+C-C+C-";

    public static void main(String[] args) {
        cylinders();
        numberOfSteps();
        betweenSteps();
        parallelMoves();
        pauses();
        signsOfMoves();
        positionsOfMoves();
        lengthOfText();
        codes();
        firstBadSign();
        endTooEarly();
        digits();
        seventeenthStep();
        closingParenthesis();
        wrongMoves();
        endOfSequence();
        orderOfKinds();
        newObject();
        typing();
        clearing();
        reading();
        kindOfError();
        lookingAtSteps();
        Script.end();
    }

    private static void cylinders() {
        String title = "There are six cylinders, A to F, numbered 0 to 5";
        String letters = "ABCDEF";
        for (int c = 0; c < 6; c++) {
            char letter = letters.charAt(c);
            Script.run(title, "read " + letter + "+" + letter + "- = 2; moves(0) = " + (1 << c),
                    "direction(0, " + c + ") = 1; direction(1, " + c + ") = -1; valves(0) = 1");
        }
        for (String text : new String[] {"@+@-", "G+G-", "`+`-", "a+a-", "f+f-", "g+g-", "1+1-"}) {
            Script.refuses(title, text, 1, 0);
        }
        Script.refuses(title, "A+G+G-A-", 1, 2);
        Script.refuses(title, "(A+G+)", 1, 3);
    }

    private static void numberOfSteps() {
        String title = "A sequence is a text of 1 to 16 steps";
        Script.refuses(title, "", 1, 0);
        // One step alone is no error of kind 1: the text may have it, but the cylinder stays extended.
        Script.refuses(title, "A+", 3, 2);
        Script.reads(title, "A+A-", 2);
        Script.reads(title, "A+A-".repeat(7) + "T1", 15);
        Script.reads(title, SIXTEEN, 16);
        Script.refuses(title, SIXTEEN + "T1", 1, 32);
    }

    private static void betweenSteps() {
        String title = "one directly after the other";
        Script.reads(title, "A+(B+C+)T5A-T05(B-C-)", 6);
        for (String between : new String[] {" ", ",", ";", ".", "/", "~", "_"}) {
            Script.refuses(title, "A+" + between + "A-", 1, 2);
            Script.refuses(title, between + "A+A-", 1, 0);
            Script.refuses(title, "A+A-" + between, 1, 4);
            Script.refuses(title, "(A+" + between + "B+)(A-B-)", 1, 3);
            Script.refuses(title, "A+T5" + between + "A-", 1, 4);
        }
    }

    private static void parallelMoves() {
        String title = "a group of two or more moves in parentheses, of different cylinders";
        Script.refuses(title, "()", 1, 1);
        Script.refuses(title, "(A+)A-", 1, 3);
        Script.reads(title, "(A+B+)(A-B-)", 2);
        Script.reads(title, "(A+B+C+)(C-A-B-)", 2);
        Script.reads(title, "(F+E+D+C+B+A+)(A-B-C-D-E-F-)", 2);
        Script.refuses(title, "(A+B+C+D+E+F+A-)(B-C-D-E-F-)", 2, 13);
        Script.refuses(title, "(A+A+)A-", 2, 3);
        Script.refuses(title, "A+(B+(C+D+))", 1, 5);
        Script.refuses(title, "(A+B+T1)(A-B-)", 1, 5);
        Script.refuses(title, "A+A-)", 1, 4);
    }

    private static void pauses() {
        String title = "a pause, which is the letter T and one or two digits with a value from 1 to 60";
        int[] values = {1, 2, 9, 10, 11, 19, 20, 59, 60};
        for (int value : values) {
            Script.run(title, "read A+T" + value + "A- = 3; pause(1) = " + value + "; moves(1) = 0");
        }
        for (int value = 1; value <= 9; value++) {
            Script.run(title, "read A+T0" + value + "A- = 3; pause(1) = " + value);
        }
        for (String digits : new String[] {"0", "00", "61", "62", "69", "70", "99"}) {
            Script.refuses(title, "A+T" + digits + "A-", 1, 3);
            Script.refuses(title, "A+A-T" + digits, 1, 5);
        }
        Script.refuses(title, "A+TA-", 1, 3);
        Script.refuses(title, "A+t1A-", 1, 2);
        Script.refuses(title, "A+S1A-", 1, 2);
        Script.refuses(title, "A+U1A-", 1, 2);
        Script.refuses(title, "A+1A-", 1, 2);
        Script.refuses(title, "A+T/A-", 1, 3);
        Script.refuses(title, "A+T:A-", 1, 3);
        Script.refuses(title, "A+T1/A-", 1, 4);
        Script.refuses(title, "A+T1:A-", 1, 4);
    }

    private static void signsOfMoves() {
        String title = "A move is a letter A to F, followed by + (extend) or - (retract)";
        for (String sign : new String[] {"*", ",", ".", "A", "1", " ", "(", ")", "T"}) {
            Script.refuses(title, "A" + sign + "A-", 1, 1);
            Script.refuses(title, "A+A" + sign, 1, 3);
            Script.refuses(title, "(A+B" + sign + ")", 1, 4);
        }
        Script.run(title, "read A+A- = 2; direction(0, 0) = 1; direction(1, 0) = -1");
    }

    private static void positionsOfMoves() {
        Script.refuses("A sequence has at least one move", "T1", 3, 2);
        Script.reads("A sequence has at least one move", "T1A+A-", 3);
        for (char letter = 'A'; letter <= 'F'; letter++) {
            String out = letter + "+";
            String in = letter + "-";
            Script.refuses("Before the first step, all cylinders are retracted", in + out, 2, 0);
            Script.refuses("each move must be made from the other position: + if retracted", out + out + in, 2, 2);
            Script.refuses("each move must be made from the other position: - if extended", out + in + in, 2, 4);
            Script.refuses("After the last step, all cylinders must be retracted", out + in + out, 3, 6);
            Script.reads("After the last step, all cylinders must be retracted", out + in + out + in, 4);
        }
        Script.refuses("after all steps before", "(A+B+)(B-C+)B-", 2, 12);
        Script.reads("after all steps before", "(A+B+)(B-C+)B+(A-B-C-)", 4);
        Script.run("The steps are numbered from 0", "read A+B+B-A- = 4; moves(0) = 1; moves(1) = 2; moves(2) = 2",
                "moves(3) = 1; moves(4) = INDEX; moves(-1) = INDEX");
        // Direct: A+ comes with the completion of A-, the last step, and not at once with A's other end.
        Script.run("The step before step 0 is the last one", "setMethod(0); read A+A- = 2; ticks(1) = 1; ticks(3) = 1",
                "ticks(1); position(0) = 1; commands(0) = 0; ticks(1); position(0) = 0; ticks(1) = 1",
                "eventMove(0) = 1");
    }

    private static void lengthOfText() {
        String title = "a buffer of at most 80 characters";
        Script.run(title, Script.times(78, "type(65)"), "type(65) = 79; type(65) = 80; type(65) = ISE",
                "clearText() = 80");
        Script.reads(title, LONGEST, 16);
        Script.run(title + ", all of them are read", Script.typed(LONGEST), "readSequence() = 16; moves(11) = 3",
                "moves(12) = 4; direction(14, 2) = 1; direction(15, 2) = -1; type(65) = 1");
        Script.refuses(title + ", the last one is bad", LONGEST.substring(0, 79) + "*", 1, 79);
        Script.refuses(title + ", ends too early", "(" + "A+".repeat(39) + "A", 1, 80);
        Script.refuses(title + ", ends behind a T", "(A+B+)(A-B-)".repeat(6) + "C+C-T10T", 1, 80);
        Script.reads(title + ", the last one is a digit", "(A+B+)(A-B-)".repeat(6) + "C+C-T1T5", 16);
        Script.reads(title + ", the last one is a second digit", "(A+B+C+)(A-B-C-)".repeat(4) + "A+A-T10T10T10T05", 14);
        Script.refuses(title + ", the last one is a third digit", "(A+B+)(A-B-)".repeat(6) + "C+C-T105", 1, 79);
        Script.refuses(title + ", of kind 2", "(" + "A+".repeat(39) + ")", 2, 3);
        Script.refuses(title + ", of kind 3", LONGEST.substring(0, 72) + "(A+B+C+)", 3, 80);
        Script.run("initially empty", "clearText() = 0; readSequence() = -1; errorKind() = 1");
    }

    private static void codes() {
        String title = "with codes from 32 to 126";
        Script.run(title, "type(32) = 1; type(33) = 2; type(125) = 3; type(126) = 4; type(31) = IAE; type(127) = IAE",
                "type(128) = IAE; type(160) = IAE; type(255) = IAE; type(65601) = IAE; type(-65) = IAE",
                "clearText() = 4");
    }

    private static void firstBadSign() {
        String title = "the position is the index of the first such character";
        Script.refuses(title, "?A+?", 1, 0);
        Script.refuses(title, "A??", 1, 1);
        Script.refuses(title, "A+B?C?", 1, 3);
        Script.refuses(title, "A+A-?", 1, 4);
        Script.refuses(title, "T0?", 1, 1);
        Script.refuses(title, "A+T99T999", 1, 3);
        Script.refuses(title, SIXTEEN + "??", 1, 32);
    }

    private static void endTooEarly() {
        String title = "or the text ends too early: the length of the text";
        Script.refuses(title, "", 1, 0);
        Script.refuses(title, "A", 1, 1);
        Script.refuses(title, "A+A", 1, 3);
        Script.refuses(title, "(", 1, 1);
        Script.refuses(title, "(A", 1, 2);
        Script.refuses(title, "(A+", 1, 3);
        Script.refuses(title, "(A+B", 1, 4);
        Script.refuses(title, "(A+B+", 1, 5);
        Script.refuses(title, "A+A-T", 1, 5);
        Script.refuses(title, "A+A-".repeat(7) + "A+A", 1, 31);
        Script.refuses(title, "A+A-".repeat(7) + "A+(", 1, 31);
        Script.refuses(title, "A+A-".repeat(7) + "A+T", 1, 31);
    }

    private static void digits() {
        String title = "A third digit is such a character";
        Script.refuses(title, "A+T100A-", 1, 5);
        Script.refuses(title, "A+T010A-", 1, 5);
        Script.refuses(title, "A+T012A-", 1, 5);
        Script.refuses(title, "A+T599A-", 1, 5);
        Script.refuses(title, "A+T600A-", 1, 5);
        Script.refuses(title, "A+T1234A-", 1, 5);
        Script.refuses(title, "A+A-T123", 1, 7);
        title = "of a T with a value that is 0 or above 60, the first digit is";
        Script.refuses(title, "A+T0A-", 1, 3);
        Script.refuses(title, "A+T00A-", 1, 3);
        Script.refuses(title, "A+T61A-", 1, 3);
        Script.refuses(title, "A+T99A-", 1, 3);
        Script.refuses(title + ", also where a third digit follows", "A+T000A-", 1, 3);
        Script.refuses(title + ", also where a third digit follows", "A+T001A-", 1, 3);
        Script.refuses(title + ", also where a third digit follows", "A+T610A-", 1, 3);
    }

    private static void seventeenthStep() {
        String title = "The character that would begin a 17th step cannot stand";
        for (String more : new String[] {"A", "A+", "A+A-", "T", "T1", "(", "(A+B+)", "A-"}) {
            Script.refuses(title, SIXTEEN + more, 1, 32);
        }
        Script.refuses(title, "(A+B+)(A-B-)".repeat(5) + "C+C-".repeat(3) + "D", 1, 72);
        Script.refuses(title, "T1".repeat(16) + "A+", 1, 32);
        Script.refuses(title, "T10".repeat(16) + "T", 1, 48);
        Script.refuses(title + ", behind a pause of one digit", "A+A-".repeat(7) + "T1T1T", 1, 32);
        Script.reads(title + ", but the pause's second digit", "A+A-".repeat(7) + "T1T11", 16);
    }

    private static void closingParenthesis() {
        String title = "the closing parenthesis of a group with one move only cannot stand";
        Script.refuses(title, "(A+)", 1, 3);
        Script.refuses(title, "A+(B+)B-A-", 1, 5);
        Script.refuses(title, "(A+B+)(A-)B-", 1, 9);
        Script.reads(title, "(A+B+)(A-B-)", 2);
    }

    private static void wrongMoves() {
        String title = "kind 2: a move from the wrong position; the position is the index of its letter";
        Script.refuses(title, "A-", 2, 0);
        Script.refuses(title, "T10A-", 2, 3);
        Script.refuses(title, "A+(B+A+)", 2, 5);
        Script.refuses(title, "A+A-B+B-A-", 2, 8);
        Script.refuses(title, "A+A-".repeat(7) + "A+A+", 2, 30);
        title = "kind 2: a second move of a cylinder in the same group; the position is the index of its letter";
        Script.refuses(title, "(A+A-)", 2, 3);
        Script.refuses(title, "(A+B+A-)B-", 2, 5);
        Script.refuses(title, "A+(A-B+A+)A-B-", 2, 7);
        Script.refuses(title, "(B+A+)(A-B-A+)", 2, 11);
        Script.reads(title + "; not in the next one", "(A+B+)(A-B-)(A+B+)(A-B-)", 4);
        title = "otherwise of kind 2 if there is any (the first one in the text)";
        Script.refuses(title, "A+A+A+", 2, 2);
        Script.refuses(title, "(A+A-)B-", 2, 3);
        Script.refuses(title, "B-(A+A-)", 2, 0);
    }

    private static void endOfSequence() {
        String title = "kind 3: a cylinder is extended after the last step; the length of the text";
        Script.refuses(title, "A+", 3, 2);
        Script.refuses(title, "A+T60", 3, 5);
        Script.refuses(title, "(A+B+C+D+E+F+)(A-B-C-D-E-)", 3, 26);
        Script.refuses(title, "A+A-".repeat(7) + "A+T1", 3, 32);
        title = "kind 3: there is no move; the length of the text";
        Script.refuses(title, "T1", 3, 2);
        Script.refuses(title, "T60", 3, 3);
        Script.refuses(title, "T1".repeat(16), 3, 32);
        Script.refuses(title, "T10".repeat(16), 3, 48);
    }

    private static void orderOfKinds() {
        String title = "The text has an error of kind 1 if there is any; otherwise of kind 2; otherwise of kind 3";
        Script.refuses(title, "A+A+?", 1, 4);
        Script.refuses(title, "A-B", 1, 3);
        Script.refuses(title, "(A+A-)T0", 1, 7);
        Script.refuses(title, "A-".repeat(17), 1, 32);
        Script.refuses(title, "A+?", 1, 2);
        Script.refuses(title, "T1?", 1, 2);
        Script.refuses(title, "A+A+", 2, 2);
        Script.refuses(title, "A+B-", 2, 2);
        Script.refuses(title, "A+B+A-", 3, 6);
    }

    private static void newObject() {
        Script.run("Creates a bench without a sequence", "steps() = 0; moves(0) = INDEX; ticks(0) = ISE; active() = -1",
                "clashes() = ISE; groups() = ISE; cut(0) = INDEX; errorKind() = 0");
    }

    private static void typing() {
        Script.run("Returns the length of the text", "type(65) = 1; type(43) = 2; type(31) = IAE; type(65) = 3");
        String full = Script.times(80, "type(32)");
        Script.run("IllegalStateException if the text has 80 characters already", full, "type(32) = ISE",
                "type(126) = ISE",
                "type(65) = ISE; clearText() = 80; type(65) = 1");
        Script.run("of several the one that is listed first: the code before the full text", full, "type(31) = IAE",
                "type(127) = IAE; type(-2147483648) = IAE; type(2147483647) = IAE; clearText() = 80");
    }

    private static void clearing() {
        Script.run("Returns the length that it had", "clearText() = 0; type(65); clearText() = 1; clearText() = 0",
                Script.times(80, "type(65)"), "clearText() = 80; clearText() = 0; type(65) = 1");
    }

    private static void reading() {
        Script.run("which replaces the former one", "read A+T5(B+C+)(A-B-C-) = 4; read D+D- = 2; steps() = 2",
                "moves(0) = 8; moves(1) = 8; moves(2) = INDEX; pause(1) = 0; timer(2) = INDEX; groups() = 2",
                "cut(1) = 1");
        Script.run("which replaces the former one, and the one before", "read (A+B+)T5(A-B-)T7C+C- = 6; read D+D- = 2",
                "read E+F+E-F- = 4; pause(1) = 0; pause(3) = 0; moves(0) = 16; moves(1) = 32; moves(2) = 16",
                "valves(0) = 2");
        Script.run("nothing stays of a text with an error", "read T9T8(A+B+)T7? = -13; clearText(); read C+D+C-D- = 4",
                "pause(0) = 0; pause(1) = 0; pause(3) = 0; moves(0) = 4; moves(2) = 4; valves(0) = 2");
        Script.run("and brings the rig to rest", "read A+A- = 2; ticks(4) = 2; read A+A- = 2; time() = 0; events() = 0",
                "position(0) = 0; isOut(0) = false; cycles() = 0; rightEvents() = 0; active() = 1; commands(0) = 0");
        Script.run("The text is empty then", Script.typed("A+A-"), "readSequence() = 2; clearText() = 0",
                "readSequence() = -1",
                "steps() = 2");
        for (String text : new String[] {"A+A-?", "A+A+", "A+", "", "T0", SIXTEEN + "A"}) {
            String setUp = "setStroke(0, 4); read A+T4B+A-B- = 5; setFault(1, 3, true); ticks(12);"
                    + Script.typed(text);
            Script.unchanged("If the text has an error, nothing is changed but the result of errorKind()", setUp,
                    "readSequence()", Looks.ERROR_KIND);
        }
        Script.run("and the text stays", "read A+A = -4; clearText() = 3; read A+A = -4; type(45) = 4",
                "readSequence() = 2");
    }

    private static void kindOfError() {
        Script.run("0 if there was none", "errorKind() = 0; type(63); errorKind() = 0");
        Script.run("0 if this text had no error", "read A+ = -3; errorKind() = 3; type(65); type(45)",
                "readSequence() = 2",
                "errorKind() = 0");
        Script.run("of the text that was given to readSequence() last", "read ? = -1; errorKind() = 1; clearText()",
                "errorKind() = 1; read A- = -1; errorKind() = 2; clearText(); read A+ = -3; errorKind() = 3",
                "clearText()",
                "type(65); rest(); setMethod(0); errorKind() = 3");
    }

    private static void lookingAtSteps() {
        Script.run("0 if there is no sequence", "steps() = 0; read A+ = -3; steps() = 0");
        Script.run("the number of steps", "read A+A- = 2; steps() = 2; read " + SIXTEEN + " = 16; steps() = 16");
        Script.run("bit c for cylinder c; 0 for a pause", "read (A+B+C+D+E+F+)T1(A-C-E-)(B-D-F-) = 4; moves(0) = 63",
                "moves(1) = 0; moves(2) = 21; moves(3) = 42");
        Script.run("0 if the cylinder does not move in this step", "read (A+F+)T1(A-F-) = 3; direction(0, 0) = 1",
                "direction(0, 1) = 0; direction(0, 4) = 0; direction(0, 5) = 1; direction(1, 0) = 0",
                "direction(1, 5) = 0",
                "direction(2, 5) = -1; direction(2, 4) = 0");
        Script.run("0 if the step is not a pause", "read T60A+A-T1 = 4; pause(0) = 60; pause(1) = 0; pause(2) = 0",
                "pause(3) = 1");
        for (String name : new String[] {"moves", "pause"}) {
            Script.run("if there is no such step", name + "(0) = INDEX; read A+A- = 2;" + name + "(1)",
                    name + "(2) = INDEX;" + name + "(-1) = INDEX; read " + SIXTEEN + " = 16;" + name + "(15)",
                    name + "(16) = INDEX;" + name + "(-1) = INDEX;" + name + "(2147483647) = INDEX",
                    name + "(-2147483648) = INDEX");
        }
        Script.run("if there is no such step, or cylinder is out of its range", "direction(0, 0) = INDEX",
                "read A+A- = 2; direction(1, 0) = -1; direction(1, 5) = 0; direction(2, 0) = INDEX",
                "direction(-1, 0) = INDEX; direction(0, 6) = INDEX; direction(0, -1) = INDEX; direction(2, 6) = INDEX",
                "direction(0, 2147483647) = INDEX; direction(-2147483648, -2147483648) = INDEX");
    }
}
