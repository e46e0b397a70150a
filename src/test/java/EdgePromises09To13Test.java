/** The edges of promises 9 to 13: input, run, out, kept and state, and what they refuse. */
public final class EdgePromises09To13Test {
    private static final int[] NONE = {-1, 4, 5, -4, Integer.MIN_VALUE, Integer.MAX_VALUE};
    private static final String SHOW = "INPUT 0; OUT 0 0; INPUT 1; OUT 1 2; INPUT 2; OUT 2 4; INPUT 3; OUT 3 6";
    private static final String BUSY = "LANE; CONST 5; ADD 0 1; PUT 1 2; OUT 2 2; TAKE 3 2; IF 0; DROP; END";

    public static void main(String[] args) {
        inputOfALane();
        inputOfNone();
        inputBeforeAndBehindARun();
        runAnswers();
        runOfWrong();
        outOfNone();
        outOfTheLatestRun();
        keptOfNone();
        keptInTheEnd();
        stateOfOthers();
        stateSteps();
        stateOn();
        stateOnAtTheEndOfAPart();
        stateNextLine();
        stateRounds();
        Bench.end();
    }

    private static void shows(LaneDesk desk, String... rows) {
        Bench.due("run", desk.run(false), LaneDesk.DONE);
        for (int k = 0; k < 4; k++) {
            Bench.dueRow("input " + k, Bench.outs(desk, k), rows[k]);
        }
    }

    private static void inputOfALane() {
        Bench.sentence("An INPUT of a LANE becomes v; of all LANES for INPUT 0 and 1.");
        for (int lane = 0; lane < 4; lane++) {
            LaneDesk desk = Bench.desk(SHOW);
            for (int k = 0; k < 4; k++) {
                Bench.due("input(" + lane + ", " + k + ")", desk.input(lane, k, 10 + k), true);
            }
            String two = (lane == 0 ? 12 : 0) + " " + (lane == 1 ? 12 : 0) + " " + (lane == 2 ? 12 : 0) + " " + (lane == 3 ? 12 : 0);
            shows(desk, "10 10 10 10", "11 11 11 11", two, two.replace("12", "13"));
            // Any int, and 0 again.
            Bench.due("the least", desk.input(lane, 0, Integer.MIN_VALUE), true);
            Bench.due("the greatest", desk.input(lane, 1, Integer.MAX_VALUE), true);
            Bench.due("0", desk.input(lane, 2, 0), true);
            shows(desk, "-2147483648 ".repeat(4), "2147483647 ".repeat(4), "0 0 0 0", two.replace("12", "13"));
        }
    }

    private static void inputOfNone() {
        Bench.sentence("False if there is none.");
        LaneDesk desk = Bench.desk(SHOW);
        desk.input(0, 0, 1);
        desk.input(0, 1, 2);
        Bench.inputs(desk, 2, "3 4 5 6");
        Bench.inputs(desk, 3, "7 8 9 10");
        for (int out : NONE) {
            for (int in = 0; in < 4; in++) {
                Bench.due("input(" + out + ", " + in + ", 99)", desk.input(out, in, 99), false);
                Bench.due("input(" + in + ", " + out + ", 99)", desk.input(in, out, 99), false);
            }
            Bench.due("input(" + out + ", " + out + ", 99)", desk.input(out, out, 99), false);
        }
        shows(desk, "1 1 1 1", "2 2 2 2", "3 4 5 6", "7 8 9 10");
    }

    private static void inputBeforeAndBehindARun() {
        Bench.sentence("An INPUT of a LANE becomes v; of all LANES for INPUT 0 and 1.");
        LaneDesk desk = new LaneDesk();
        Bench.due("without lines", desk.input(3, 3, 8), true);
        Bench.load(desk, SHOW + "; END");
        Bench.due("while something is wrong", desk.input(0, 0, 5), true);
        desk.wipe();
        Bench.load(desk, SHOW);
        shows(desk, "5 5 5 5", "0 0 0 0", "0 0 0 0", "0 0 0 8");
        Bench.due("behind a run", desk.input(0, 3, 4), true);
        Bench.dueRow("the latest run is as it was", Bench.outs(desk, 3), "0 0 0 8");
        shows(desk, "5 5 5 5", "0 0 0 0", "0 0 0 0", "4 0 0 8");
    }

    private static void runAnswers() {
        Bench.sentence("A RUN, SHORT or not: DONE, LONG.");
        Bench.dueStates("", false, LaneDesk.DONE, "0 0 15 0 0");
        Bench.dueStates("", true, LaneDesk.DONE, "0 0 15 0 0");
        Bench.dueStates("LOOP; AGAIN", false, LaneDesk.LONG, "400 0 15 1 399");
        Bench.dueStates("LOOP; AGAIN", true, LaneDesk.LONG, "400 0 15 1 399");
        // LONG in one way, DONE in the other.
        LaneDesk desk = Bench.desk(Bench.counting() + Bench.times(14, "NOT 0"));
        Bench.due("all lines", desk.run(false), LaneDesk.LONG);
        Bench.due("those that are NEEDED", desk.run(true), LaneDesk.DONE);
        Bench.due("all lines once more", desk.run(false), LaneDesk.LONG);
    }

    private static void runOfWrong() {
        Bench.sentence("BAD, and nothing changes, if something is WRONG.");
        for (String wrong : new String[] {"; END", "; NOT 99", "; NOT 3", "; IF 0", "; IF 0; DOWN 0; END", "; IF 0; LANE; END; NOT 10"}) {
            LaneDesk desk = Bench.desk(BUSY);
            Bench.due("a good run", desk.run(false), LaneDesk.DONE);
            String told = Bench.told(desk);
            Bench.dueRow("of which is told", told, "9 14 15 9 0 | 0 0 0 0 | 0 0 0 0 | 0 0 0 0 | 0 0 0 0 | 5 6 7 8 | 0 0 0 0"
                    + " | 5 6 7 8 | 0 0 0 0 | 0 0 0 0 | 0 0 0 0 | 0 0 0 0 | 26 26 26 26");
            Bench.load(desk, wrong);
            Bench.due("run with " + wrong, desk.run(false), LaneDesk.BAD);
            Bench.due("short run with " + wrong, desk.run(true), LaneDesk.BAD);
            Bench.dueRow("told behind " + wrong, Bench.told(desk), told);
            Bench.due("the lines are there with " + wrong, desk.wipe(), 9 + wrong.substring(1).split(";").length);
        }
        // Before any run: what is told stays all 0.
        LaneDesk desk = Bench.desk("LANE; OUT 0 0; LOOP");
        Bench.due("run", desk.run(false), LaneDesk.BAD);
        Bench.dueRow("told", Bench.told(desk), Bench.told(new LaneDesk()));
        Bench.dueRow("state", Bench.states(desk), "0 0 0 0 0");
    }

    private static void outOfNone() {
        Bench.sentence("an OUTPUT of a LANE; 0 if there is none.");
        LaneDesk desk = Bench.desk("CONST 7; OUT 0 0; OUT 1 0; OUT 2 0; OUT 3 0; PUT 0 0; PUT 1 0; PUT 2 0; PUT 3 0");
        desk.run(false);
        for (int out : NONE) {
            for (int in = 0; in < 4; in++) {
                Bench.due("out(" + out + ", " + in + ")", desk.out(out, in), 0);
                Bench.due("out(" + in + ", " + out + ")", desk.out(in, out), 0);
            }
            Bench.due("out(" + out + ", " + out + ")", desk.out(out, out), 0);
        }
        for (int lane = 0; lane < 4; lane++) {
            for (int k = 0; k < 4; k++) {
                Bench.due("out(" + lane + ", " + k + ")", desk.out(lane, k), 7);
            }
        }
    }

    private static void outOfTheLatestRun() {
        Bench.sentence("Of the latest run: an OUTPUT of a LANE; 0 if there is none.");
        LaneDesk desk = Bench.desk("LANE; OUT 1 0");
        Bench.dueRow("before any run", Bench.outs(desk, 1), "0 0 0 0");
        desk.run(false);
        Bench.dueRow("behind it", Bench.outs(desk, 1), "0 1 2 3");
        Bench.load(desk, "CONST 9; OUT 1 2");
        Bench.dueRow("with further lines", Bench.outs(desk, 1), "0 1 2 3");
        desk.run(true);
        Bench.dueRow("behind the next one", Bench.outs(desk, 1), "9 9 9 9");
        desk.wipe();
        Bench.dueRow("behind a wipe", Bench.outs(desk, 1), "9 9 9 9");
        desk.run(false);
        Bench.dueRow("behind a run of no lines", Bench.outs(desk, 1), "0 0 0 0");
        // A LONG run has those it came to.
        desk = Bench.desk("LANE; OUT 1 0; LOOP; OUT 2 0; AGAIN; OUT 3 0");
        Bench.due("a LONG run", desk.run(false), LaneDesk.LONG);
        Bench.dueRow("come to", Bench.outs(desk, 2), "0 1 2 3");
        Bench.dueRow("not come to", Bench.outs(desk, 3), "0 0 0 0");
    }

    private static void keptOfNone() {
        Bench.sentence("a VARIABLE (k 0..3), or a CELL (4..7, any LANE) in the end; 0 if there is none.");
        LaneDesk desk = Bench.desk("CONST 7; PUT 0 0; PUT 1 0; PUT 2 0; PUT 3 0; TAKE 0 0; TAKE 1 0; TAKE 2 0; TAKE 3 0; OUT 0 0");
        desk.run(false);
        for (int lane = 0; lane < 4; lane++) {
            for (int k = 0; k < 8; k++) {
                Bench.due("kept(" + lane + ", " + k + ")", desk.kept(lane, k), k < 4 ? 7 : 28);
            }
            for (int k : new int[] {-1, 8, 9, -8, Integer.MIN_VALUE, Integer.MAX_VALUE}) {
                Bench.due("kept(" + lane + ", " + k + ")", desk.kept(lane, k), 0);
            }
        }
        // A number that is no LANE has no VARIABLE, and is not one of the LANES that a CELL may be asked with.
        for (int lane : NONE) {
            for (int k = -1; k <= 8; k++) {
                Bench.due("kept(" + lane + ", " + k + ")", desk.kept(lane, k), 0);
            }
        }
    }

    private static void keptInTheEnd() {
        Bench.sentence("a VARIABLE (k 0..3), or a CELL (4..7, any LANE) in the end; 0 if there is none.");
        LaneDesk desk = Bench.desk("LANE; CONST 1; PUT 0 0; PUT 0 1; TAKE 2 1; TAKE 2 0; GET 3");
        Bench.dueRow("before any run", Bench.keeps(desk, 0), "0 0 0 0");
        desk.run(false);
        Bench.dueRow("the last PUT", Bench.keeps(desk, 0), "1 1 1 1");
        Bench.dueRow("one that is not put", Bench.keeps(desk, 3), "0 0 0 0");
        Bench.dueRow("all that was taken", Bench.keeps(desk, 6), "10 10 10 10");
        Bench.dueRow("one that is not taken", Bench.keeps(desk, 7), "0 0 0 0");
        desk.wipe();
        Bench.dueRow("behind a wipe", Bench.keeps(desk, 6), "10 10 10 10");
        // Of a LONG run as they were where it ended.
        desk = Bench.desk("CONST 1; LOOP; TAKE 0 0; GET 0; ADD 3 0; PUT 0 4; AGAIN");
        Bench.due("a LONG run", desk.run(false), LaneDesk.LONG);
        Bench.dueRow("its variable", Bench.keeps(desk, 0), "79 79 79 79");
        Bench.dueRow("its cell", Bench.keeps(desk, 4), "320 320 320 320");
    }

    private static void stateOfOthers() {
        Bench.sentence("4: how many times a LOOP was begun again; BAD for others.");
        LaneDesk desk = Bench.desk(BUSY);
        for (int times = 0; times < 2; times++) {
            for (int what : new int[] {-1, 5, 6, -5, Integer.MIN_VALUE, Integer.MAX_VALUE}) {
                Bench.due("state(" + what + ")", desk.state(what), LaneDesk.BAD);
            }
            desk.run(false);
        }
    }

    private static void stateSteps() {
        Bench.sentence("Of the latest run what 0: STEPS; 1: LANES that are DROPPED, as bits");
        LaneDesk desk = Bench.desk("LANE; DROP; OUT 0 0");
        Bench.due("before any run", desk.state(0), 0);
        desk.run(false);
        Bench.dueRow("of the first run", Bench.states(desk), "3 15 15 3 0");
        desk.run(false);
        Bench.dueRow("of the second one alone", Bench.states(desk), "3 15 15 3 0");
        desk.wipe();
        Bench.load(desk, "LOOP; AGAIN");
        desk.run(false);
        Bench.dueRow("at most 400", Bench.states(desk), "400 0 15 1 399");
        desk.wipe();
        desk.run(false);
        Bench.dueRow("none", Bench.states(desk), "0 0 15 0 0");
    }

    private static void stateOn() {
        Bench.sentence("2: LANES that are ON where it ended, as bits");
        // Lane 0 is bit 0: the LOOP is gone on with by one lane alone.
        Bench.dueStates("LANE; CONST 0; LOOP; SAME 0 1; IF 3; ELSE; BREAK; END; AGAIN", false, LaneDesk.LONG, "400 0 1 4 79");
        Bench.dueStates("LANE; CONST 3; LOOP; SAME 0 1; IF 3; ELSE; BREAK; END; AGAIN", false, LaneDesk.LONG, "400 0 8 4 79");
        Bench.dueStates("LANE; CONST 2; LOOP; LESS 0 1; IF 3; BREAK; END; AGAIN", false, LaneDesk.LONG, "400 0 12 3 99");
        Bench.sentence("1: LANES that are DROPPED, as bits");
        Bench.dueStates("LANE; CONST 3; SAME 0 1; IF 2; DROP; END", false, LaneDesk.DONE, "6 8 15 6 0");
        Bench.dueStates("LANE; CONST 2; LESS 0 1; IF 2; DROP; END", false, LaneDesk.DONE, "6 3 15 6 0");
    }

    /** Fills all but a few of the 400 steps, so that the run ends so many lines within what stands behind. */
    private static void endsIn(int room, String behind, String onAndLine) {
        int fill = 400 - Bench.COUNTING_STEPS - room;
        int first = Bench.COUNTING_LINES + fill;
        String moved = behind;
        for (int k = 9; k >= 0; k--) {
            moved = moved.replace("#" + k, Integer.toString(first + k));
        }
        LaneDesk desk = Bench.desk(Bench.counting() + Bench.times(fill, "OUT 0 0") + "; " + moved);
        Bench.due("run into " + behind, desk.run(false), LaneDesk.LONG);
        Bench.dueRow("steps, ON and line after " + room + " steps of " + behind,
                desk.state(0) + " " + desk.state(2) + " " + (desk.state(3) - first), "400 " + onAndLine);
    }

    private static void stateOnAtTheEndOfAPart() {
        Bench.sentence("(at an ELSE, END or AGAIN those ON at the end of the part, perhaps none)");
        String parts = "LANE; IF #0; DROP; ELSE; DROP; END; DROP";
        endsIn(2, parts, "14 2");
        endsIn(3, parts, "14 3");
        endsIn(4, parts, "1 4");
        endsIn(5, parts, "1 5");
        endsIn(6, parts, "15 6");
        // None at the end of a part that is left out, or that all went out of.
        endsIn(2, "CONST 0; IF #0; DROP; END; DROP", "0 3");
        endsIn(4, "CONST 1; IF #0; DROP; ELSE; DROP; END; DROP", "0 5");
        String out = "LANE; LOOP; IF #0; BREAK; ELSE; BREAK; END; AGAIN; DROP";
        endsIn(3, out, "14 3");
        endsIn(4, out, "0 4");
        endsIn(5, out, "1 5");
        endsIn(6, out, "0 6");
        endsIn(7, out, "0 7");
        endsIn(8, out, "15 8");
        // Some at an AGAIN.
        String some = "LANE; LOOP; IF #0; BREAK; END; AGAIN";
        endsIn(4, some, "0 4");
        endsIn(5, some, "1 5");
        endsIn(6, some, "1 2");
    }

    private static void stateNextLine() {
        Bench.sentence("3: the LINE that would have been the next STEP (how many there are, if DONE)");
        Bench.dueStates("", false, LaneDesk.DONE, "0 0 15 0 0");
        Bench.dueStates("LANE", false, LaneDesk.DONE, "1 0 15 1 0");
        Bench.dueStates("LANE" + Bench.times(47, "LANE"), true, LaneDesk.DONE, "0 0 15 48 0");
        Bench.dueStates("LOOP; LANE; AGAIN", false, LaneDesk.LONG, "400 0 15 2 199");
        Bench.dueStates("LOOP; LANE; AGAIN", true, LaneDesk.LONG, "400 0 15 2 399");
        // So many there were when it was run, whatever comes behind.
        LaneDesk desk = Bench.desk("LANE; LANE");
        desk.run(false);
        Bench.load(desk, "LANE");
        Bench.due("with a further line", desk.state(3), 2);
        desk.wipe();
        Bench.due("behind a wipe", desk.state(3), 2);
    }

    private static void stateRounds() {
        Bench.sentence("4: how many times a LOOP was begun again");
        Bench.dueStates("LOOP; BREAK; AGAIN", false, LaneDesk.DONE, "3 0 15 3 0");
        Bench.dueStates(Bench.counting(), false, LaneDesk.DONE, "387 0 15 12 47");
        // All LOOPs are counted together: the inner one begins again once in each of two rounds.
        Bench.dueStates("CONST 1; LOOP; LOOP; GET 0; IF 3; PUT 0 0; BREAK; END; PUT 0 0; AGAIN; CONST 0; GET 1; PUT 0 10; PUT 1 0; IF 11; BREAK; END; AGAIN",
                false, LaneDesk.DONE, "41 0 15 18 3");
    }
}
