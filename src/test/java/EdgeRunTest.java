/** The edges in 'Terms', A RUN: none, some or all lanes at each turn, and the step that is one too many. */
public final class EdgeRunTest {
    private static final String NONE = "0 0 0 0";

    public static void main(String[] args) {
        beginsAnew();
        doneForThoseOn();
        partsOfAnIf();
        leftOutParts();
        onAtEnd();
        onAtAgain();
        behindAgain();
        innermostLoop();
        whereNoneIsOn();
        stepsOfEnd();
        stepsOfElse();
        stepsOfAgain();
        fourHundredSteps();
        fourHundredShortSteps();
        endsBeforeTheNext();
        longWithNoneOn();
        Bench.end();
    }

    private static void beginsAnew() {
        Bench.sentence("VARIABLES, CELLS, OUTPUTS and VALUES are 0, no LANE is DROPPED, all are ON.");
        // The first run ends in the middle of a LOOP with lane 0 alone ON, all dropped, and everything used.
        LaneDesk desk = Bench.desk("LANE; CONST 1; ADD 0 1; DROP; PUT 0 2; PUT 3 2; LOOP; IF 0; BREAK; END; AGAIN");
        Bench.due("the first run", desk.run(false), LaneDesk.LONG);
        Bench.dueRow("its variables", Bench.keeps(desk, 3), "1 2 3 4");
        Bench.due("one is ON", desk.state(2), 1);
        Bench.due("all are dropped", desk.state(1), 15);
        desk.wipe();
        Bench.load(desk, "GET 0; OUT 0 0; LANE; CONST 2; TAKE 3 3; OUT 1 4; ANY 3; OUT 2 6; GET 3; PUT 1 8; PUT 2 2");
        for (boolean isShort : new boolean[] {false, true, false}) {
            Bench.due("a further run", desk.run(isShort), LaneDesk.DONE);
            Bench.dueRow("variable 0 was 0", Bench.outs(desk, 0), NONE);
            Bench.dueRow("cell 3 was 0", Bench.outs(desk, 1), "0 2 4 6");
            Bench.dueRow("none is dropped", Bench.outs(desk, 2), "1 1 1 1");
            Bench.dueRow("variable 1", Bench.keeps(desk, 1), NONE);
            Bench.dueRow("variable 2 is put in the long run alone", Bench.keeps(desk, 2), isShort ? NONE : "0 1 2 3");
            Bench.dueRow("cell 3 begins at 0 each time", Bench.keeps(desk, 7), "8 8 8 8");
            Bench.dueRow("state", Bench.states(desk), isShort ? "6 0 15 11 0" : "11 0 15 11 0");
        }
        desk.wipe();
        Bench.due("a run of no lines", desk.run(true), LaneDesk.DONE);
        for (int k = 0; k < 4; k++) {
            Bench.dueRow("output " + k, Bench.outs(desk, k), NONE);
            Bench.dueRow("variable " + k, Bench.keeps(desk, k), NONE);
            Bench.dueRow("cell " + k, Bench.keeps(desk, 4 + k), NONE);
        }
        Bench.dueRow("state", Bench.states(desk), "0 0 15 0 0");
    }

    private static void doneForThoseOn() {
        Bench.sentence("A LINE is done for the LANES that are ON.");
        String program = "INPUT 2; INPUT 3; CONST 9; OUT 0 2; PUT 0 2; IF 0; OUT 0 1; PUT 0 1; TAKE 0 1; DROP; END; GET 0; OUT 1 11";
        LaneDesk desk = Bench.dueBothWays(program, "0 1 0 1", "5 6 7 8", "9 6 9 8");
        Bench.dueRow("the variable", Bench.keeps(desk, 0), "9 6 9 8");
        Bench.due("the cell", desk.kept(2, 4), 14);
        Bench.due("dropped", desk.state(1), 10);
        Bench.dueRow("the other output", Bench.outs(desk, 1), "9 0 9 0");
        desk = Bench.dueBothWays(program, NONE, "5 6 7 8", "9 9 9 9");
        Bench.due("no lane: the cell", desk.kept(2, 4), 0);
        Bench.due("no lane: dropped", desk.state(1), 0);
        desk = Bench.dueBothWays(program, "1 1 1 1", "5 6 7 8", "5 6 7 8");
        Bench.due("all lanes: the cell", desk.kept(2, 4), 26);
        Bench.due("all lanes: dropped", desk.state(1), 15);
    }

    private static void partsOfAnIf() {
        Bench.sentence("The LANES that are ON at IF and have a not 0 are ON in its first part, the others of them in its second one");
        String program = "INPUT 2; CONST 1; CONST 2; IF 0; OUT 0 1; ELSE; OUT 0 2; END";
        Bench.dueBothWays(program, "-1 0 -2147483648 2", NONE, "1 2 1 1");
        Bench.dueBothWays(program, NONE, NONE, "2 2 2 2");
        Bench.dueBothWays(program, "5 5 5 5", NONE, "1 1 1 1");
        // Of an inner IF the others are only those that were ON there.
        String inner = "INPUT 2; INPUT 3; CONST 1; CONST 2; IF 1; IF 0; OUT 0 2; ELSE; OUT 0 3; END; END";
        Bench.dueBothWays(inner, "1 0 1 0", "1 1 0 0", "1 2 0 0");
        Bench.dueBothWays(inner, "1 0 1 0", "0 1 0 1", "0 2 0 2");
        // A lane that is dropped goes its way all the same.
        LaneDesk desk = Bench.dueBothWays("INPUT 2; CONST 1; CONST 2; DROP; IF 0; PUT 0 1; ELSE; PUT 0 2; END; GET 0; OUT 0 9",
                "0 1 0 1", NONE, NONE);
        Bench.dueRow("dropped ones in both parts", Bench.keeps(desk, 0), "2 1 2 1");
    }

    private static void leftOutParts() {
        Bench.sentence("a part for which none is ON is left out.");
        Bench.dueStates("CONST 0; IF 0; LANE; LANE; ELSE; LANE; END", false, LaneDesk.DONE, "4 0 15 7 0");
        Bench.dueStates("CONST 1; IF 0; LANE; ELSE; LANE; LANE; END", false, LaneDesk.DONE, "5 0 15 7 0");
        Bench.dueStates("CONST 0; IF 0; LANE; END; LANE", false, LaneDesk.DONE, "4 0 15 5 0");
        // With all that stands in it, were it without an end.
        Bench.dueStates("CONST 0; IF 0; LOOP; AGAIN; END", false, LaneDesk.DONE, "3 0 15 5 0");
        Bench.dueStates("CONST 1; IF 0; ELSE; LOOP; IF 0; END; AGAIN; END", true, LaneDesk.DONE, "3 0 15 8 0");
        Bench.dueStates("CONST 0; IF 0; IF 0; DROP; ELSE; DROP; END; DROP; ELSE; IF 0; DROP; END; END", false, LaneDesk.DONE,
                "5 0 15 13 0");
    }

    private static void onAtEnd() {
        Bench.sentence("At END those are ON that were at IF, but for those that went out by BREAK.");
        onBehindEnd("INPUT 2; INPUT 3; LOOP; IF 0; BREAK; END", "0 0 0 0", NONE, "9 9 9 9");
        onBehindEnd("INPUT 2; INPUT 3; LOOP; IF 0; BREAK; END", "1 0 0 1", NONE, "0 9 9 0");
        onBehindEnd("INPUT 2; INPUT 3; LOOP; IF 0; BREAK; END", "1 1 1 1", NONE, "0 0 0 0");
        onBehindEnd("INPUT 2; INPUT 3; LOOP; IF 0; ELSE; BREAK; END", "1 0 0 1", NONE, "9 0 0 9");
        onBehindEnd("INPUT 2; INPUT 3; LOOP; IF 0; BREAK; ELSE; BREAK; END", "1 0 0 1", NONE, "0 0 0 0");
        onBehindEnd("INPUT 2; INPUT 3; LOOP; IF 0; IF 1; BREAK; END; END", "1 1 0 0", "1 0 1 0", "0 9 9 9");
        onBehindEnd("INPUT 2; INPUT 3; LOOP; IF 0; IF 1; BREAK; ELSE; END; ELSE; IF 1; ELSE; BREAK; END; END", "1 1 0 0", "1 0 1 0", "0 9 9 0");
        // Those that go out of an inner LOOP are ON behind the END around it.
        onBehindEnd("INPUT 2; INPUT 3; LOOP; IF 0; LOOP; BREAK; AGAIN; END", "1 1 0 0", NONE, "9 9 9 9");
        onBehindEnd("INPUT 2; INPUT 3; LOOP; IF 0; LOOP; IF 1; BREAK; END; BREAK; AGAIN; END", "1 1 0 0", "1 0 0 0", "9 9 9 9");
    }

    /** A program that stops within a LOOP; what follows marks with a 9 the lanes that are ON there, and leaves the LOOP. */
    private static void onBehindEnd(String program, String twos, String threes, String want) {
        int lines = program.split(";").length;
        Bench.dueBothWays(program + "; CONST 9; PUT 0 " + lines + "; BREAK; AGAIN; GET 0; OUT 0 " + (lines + 4), twos, threes, want);
    }

    private static void onAtAgain() {
        Bench.sentence("At AGAIN: if some LANES are ON, it goes on behind LOOP with these");
        // A lane goes out when its count has come to its input; variable 0 is how many rounds it was ON.
        String program = "INPUT 2; CONST 1; LOOP; GET 0; ADD 3 1; PUT 0 4; LESS 4 0; NOT 6; IF 7; BREAK; END; AGAIN; GET 0; OUT 0 12";
        LaneDesk desk = Bench.dueBothWays(program, "1 1 1 1", NONE, "1 1 1 1");
        Bench.due("no round is begun again", desk.state(4), 0);
        desk = Bench.dueBothWays(program, "-5 0 1 2", NONE, "1 1 1 2");
        Bench.due("one round for one lane", desk.state(4), 1);
        desk = Bench.dueBothWays(program, "9 3 1 9", NONE, "9 3 1 9");
        Bench.due("as many as the last one needs", desk.state(4), 8);
        // Those that are dropped keep a LOOP going, too.
        Bench.dueStates("DROP; CONST 3; CONST 1; LOOP; GET 0; ADD 4 2; PUT 0 5; LESS 5 1; NOT 7; IF 8; BREAK; END; AGAIN", false,
                LaneDesk.DONE, "29 15 15 13 2");
    }

    private static void behindAgain() {
        Bench.sentence("else behind AGAIN with all that were ON at LOOP.");
        Bench.dueBothWays("INPUT 2; CONST 5; LOOP; IF 0; BREAK; END; BREAK; AGAIN; OUT 0 1", "0 1 0 1", NONE, "5 5 5 5");
        Bench.dueBothWays("INPUT 2; CONST 5; IF 0; LOOP; BREAK; AGAIN; OUT 0 1; END", "0 1 0 1", NONE, "0 5 0 5");
        // Not those that were out of an outer LOOP before.
        Bench.dueBothWays("INPUT 2; CONST 5; LOOP; IF 0; BREAK; END; LOOP; BREAK; AGAIN; OUT 0 1; BREAK; AGAIN", "0 1 0 1", NONE, "5 0 5 0");
    }

    private static void innermostLoop() {
        Bench.sentence("BREAK: the LANES that are ON go out of the innermost LOOP.");
        Bench.dueStates("LOOP; LOOP; BREAK; AGAIN; BREAK; AGAIN", false, LaneDesk.DONE, "6 0 15 6 0");
        Bench.dueStates("LOOP; LOOP; LOOP; LOOP; BREAK; AGAIN; BREAK; AGAIN; BREAK; AGAIN; BREAK; AGAIN", true, LaneDesk.DONE,
                "12 0 15 12 0");
        // The inner one is left each round, the outer one never.
        Bench.dueStates("LOOP; LOOP; BREAK; AGAIN; AGAIN", false, LaneDesk.LONG, "400 0 15 4 99");
        // From within three IFs of the LOOP.
        Bench.dueStates("LANE; LOOP; IF 0; IF 0; IF 0; BREAK; END; END; END; BREAK; AGAIN", false, LaneDesk.DONE, "11 0 15 11 0");
    }

    private static void whereNoneIsOn() {
        Bench.sentence("Where none is ON, LINES are left out up to the ELSE, END or AGAIN of the BLOCK.");
        Bench.dueStates("LOOP; BREAK; DROP; DROP; AGAIN; LANE", false, LaneDesk.DONE, "4 0 15 6 0");
        Bench.dueStates("LOOP; BREAK; BREAK; AGAIN", false, LaneDesk.DONE, "3 0 15 4 0");
        Bench.dueStates("CONST 1; LOOP; IF 0; BREAK; DROP; ELSE; DROP; END; DROP; AGAIN", false, LaneDesk.DONE, "7 0 15 10 0");
        Bench.dueStates("CONST 1; LOOP; IF 0; BREAK; DROP; END; DROP; AGAIN", false, LaneDesk.DONE, "6 0 15 8 0");
        // What is left out may hold a LOOP or an IF with its own ELSE, END and AGAIN: those are not stopped at.
        Bench.dueStates("CONST 1; LOOP; BREAK; IF 0; DROP; ELSE; DROP; END; LOOP; AGAIN; AGAIN", false, LaneDesk.DONE, "4 0 15 11 0");
        Bench.dueStates("CONST 1; LOOP; IF 0; BREAK; IF 0; ELSE; DROP; END; LOOP; AGAIN; ELSE; DROP; END; LOOP; AGAIN; AGAIN", false,
                LaneDesk.DONE, "7 0 15 16 0");
        // Behind the END of an IF that all went out of, two deep.
        Bench.dueStates("CONST 1; LOOP; IF 0; IF 0; BREAK; END; DROP; ELSE; DROP; END; DROP; AGAIN", false, LaneDesk.DONE, "9 0 15 12 0");
    }

    private static void stepsOfEnd() {
        Bench.sentence("END is one whenever its IF was");
        Bench.dueStates("CONST 0; IF 0; END", false, LaneDesk.DONE, "3 0 15 3 0");
        Bench.dueStates("CONST 1; IF 0; END", false, LaneDesk.DONE, "3 0 15 3 0");
        Bench.dueStates("CONST 1; LOOP; IF 0; BREAK; END; AGAIN", false, LaneDesk.DONE, "6 0 15 6 0");
        Bench.dueStates("CONST 0; IF 0; IF 0; END; END", false, LaneDesk.DONE, "3 0 15 5 0");
        Bench.dueStates("CONST 1; LOOP; BREAK; IF 0; END; AGAIN", false, LaneDesk.DONE, "4 0 15 6 0");
    }

    private static void stepsOfElse() {
        Bench.sentence("ELSE only when its IF's first part was not left out");
        Bench.dueStates("CONST 0; IF 0; ELSE; END", false, LaneDesk.DONE, "3 0 15 4 0");
        Bench.dueStates("CONST 1; IF 0; ELSE; END", false, LaneDesk.DONE, "4 0 15 4 0");
        Bench.dueStates("LANE; IF 0; ELSE; END", false, LaneDesk.DONE, "4 0 15 4 0");
        // All went out by BREAK, but the part was begun.
        Bench.dueStates("CONST 1; LOOP; IF 0; BREAK; ELSE; END; AGAIN", false, LaneDesk.DONE, "7 0 15 7 0");
        Bench.dueStates("CONST 0; LOOP; IF 0; ELSE; BREAK; END; AGAIN", false, LaneDesk.DONE, "6 0 15 7 0");
        // The first part is left out in a short run, too, whatever of it is passed over.
        Bench.dueStates("LANE; IF 0; LANE; ELSE; LANE; END", true, LaneDesk.DONE, "4 0 15 6 0");
        Bench.dueStates("CONST 0; IF 0; LANE; ELSE; LANE; END", true, LaneDesk.DONE, "2 0 15 6 0");
    }

    private static void stepsOfAgain() {
        Bench.sentence("AGAIN each time it is come to.");
        Bench.dueStates("LOOP; BREAK; AGAIN", false, LaneDesk.DONE, "3 0 15 3 0");
        Bench.dueStates("LOOP; AGAIN", false, LaneDesk.LONG, "400 0 15 1 399");
        Bench.dueStates("LANE; CONST 2; LOOP; GET 0; ADD 3 1; PUT 0 4; LESS 4 1; NOT 6; IF 7; BREAK; END; AGAIN", false, LaneDesk.DONE,
                "12 0 15 12 0");
        Bench.dueStates("LANE; CONST 1; LOOP; GET 0; ADD 3 1; PUT 0 4; LESS 3 1; IF 6; ELSE; BREAK; END; AGAIN", false, LaneDesk.DONE,
                "19 0 15 12 1");
    }

    private static void fourHundredSteps() {
        Bench.sentence("LONG is a RUN that would need more than 400 STEPS: it ends before the next one.");
        int room = 400 - Bench.COUNTING_STEPS;
        int lines = Bench.COUNTING_LINES + room;
        Bench.dueStates(Bench.counting(), false, LaneDesk.DONE, "387 0 15 12 47");
        Bench.dueStates(Bench.counting() + Bench.times(room - 1, "DROP"), false, LaneDesk.DONE, "399 15 15 " + (lines - 1) + " 47");
        Bench.dueStates(Bench.counting() + Bench.times(room, "DROP"), false, LaneDesk.DONE, "400 15 15 " + lines + " 47");
        Bench.dueStates(Bench.counting() + Bench.times(room + 1, "DROP"), false, LaneDesk.LONG, "400 15 15 " + lines + " 47");
        Bench.dueStates(Bench.counting() + Bench.times(room + 20, "DROP"), false, LaneDesk.LONG, "400 15 15 " + lines + " 47");
        // The one that is too many is not done; the one before it is.
        LaneDesk desk = Bench.desk(Bench.counting() + Bench.times(room - 1, "LANE") + "; OUT 0 0; OUT 1 0");
        Bench.due("401 steps", desk.run(false), LaneDesk.LONG);
        Bench.dueRow("step 400 is done", Bench.outs(desk, 0), "48 48 48 48");
        Bench.dueRow("step 401 is not", Bench.outs(desk, 1), NONE);
    }

    private static void fourHundredShortSteps() {
        Bench.sentence("In a SHORT run only those are done (and count)");
        int room = 400 - Bench.COUNTING_SHORT;
        int lines = Bench.COUNTING_LINES + room;
        Bench.dueStates(Bench.counting(), true, LaneDesk.DONE, "385 0 15 12 47");
        Bench.dueStates(Bench.counting() + Bench.times(room, "OUT 0 0"), true, LaneDesk.DONE, "400 0 15 " + lines + " 47");
        Bench.dueStates(Bench.counting() + Bench.times(room, "OUT 0 0"), false, LaneDesk.LONG, "400 0 15 " + (lines - 2) + " 47");
        Bench.dueStates(Bench.counting() + Bench.times(room + 1, "OUT 0 0"), true, LaneDesk.LONG, "400 0 15 " + lines + " 47");
        // Lines that are passed over behind the last step do not make it LONG; a needed one behind them does.
        String passed = Bench.counting() + Bench.times(room, "OUT 0 0") + "; LANE; CONST 7; PUT 1 0; NOT 0";
        Bench.dueStates(passed, true, LaneDesk.DONE, "400 0 15 " + (lines + 4) + " 47");
        Bench.dueStates(passed + "; DROP", true, LaneDesk.LONG, "400 0 15 " + (lines + 4) + " 47");
    }

    private static void endsBeforeTheNext() {
        Bench.sentence("it ends before the next one.");
        int room = 400 - Bench.COUNTING_STEPS;
        int at = Bench.COUNTING_LINES + room;
        String full = Bench.counting() + Bench.times(room - 1, "OUT 0 0");
        Bench.dueStates(full + "; OUT 0 0; IF 0; DROP; END", false, LaneDesk.LONG, "400 0 15 " + at + " 47");
        Bench.dueStates(full + "; OUT 0 0; LOOP; DROP; AGAIN", false, LaneDesk.LONG, "400 0 15 " + at + " 47");
        // IF is the last step: what it leaves out is not the next one.
        Bench.dueStates(full + "; IF 0; DROP; END", false, LaneDesk.LONG, "400 0 15 " + at + " 47");
        // LOOP, BREAK and AGAIN as the last step.
        Bench.dueStates(full + "; LOOP; DROP; AGAIN", false, LaneDesk.LONG, "400 0 15 " + at + " 47");
        String less = Bench.counting() + Bench.times(room - 2, "OUT 0 0");
        Bench.dueStates(less + "; LOOP; AGAIN", false, LaneDesk.LONG, "400 0 15 " + (at - 1) + " 48");
        Bench.dueStates(less + "; LOOP; BREAK; DROP; AGAIN", false, LaneDesk.LONG, "400 0 0 " + (at + 1) + " 47");
    }

    private static void longWithNoneOn() {
        Bench.sentence("it ends before the next one.");
        int room = 400 - Bench.COUNTING_STEPS;
        int at = Bench.COUNTING_LINES + room;
        String full = Bench.counting() + Bench.times(room - 3, "OUT 0 0");
        // BREAK and AGAIN are the last two steps: behind AGAIN all are ON.
        Bench.dueStates(full + "; LOOP; BREAK; AGAIN; DROP", false, LaneDesk.LONG, "400 0 15 " + at + " 47");
        Bench.dueStates(full + "; LOOP; BREAK; AGAIN", false, LaneDesk.DONE, "400 0 15 " + at + " 47");
        Bench.dueStates(full + "; OUT 0 0; LOOP; BREAK; AGAIN", false, LaneDesk.LONG, "400 0 0 " + at + " 47");
    }
}
