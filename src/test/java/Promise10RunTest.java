/** Promise 10: a run, short or not; DONE, LONG, or BAD with nothing changed. */
public final class Promise10RunTest {
    private static LaneDesk ran(String program, String want) {
        LaneDesk desk = Bench.desk(program);
        desk.input(0, 2, 4);
        desk.input(1, 2, 0);
        desk.input(2, 2, -3);
        desk.input(3, 2, 10);
        desk.input(0, 0, 6);
        Bench.due("run of " + program, desk.run(false), LaneDesk.DONE);
        Bench.dueRow("output 0 of " + program, Bench.outs(desk, 0), want);
        Bench.due("short run of " + program, desk.run(true), LaneDesk.DONE);
        Bench.dueRow("output 0 of short " + program, Bench.outs(desk, 0), want);
        return desk;
    }

    public static void main(String[] args) {
        plainValues();
        neighbours();
        ifs();
        loops();
        drops();
        takes();
        shortRuns();
        longRuns();
        wrongOnes();
        Bench.end();
    }

    private static void plainValues() {
        ran("CONST -9; OUT 0 0", "-9 -9 -9 -9");
        ran("INPUT 2; OUT 0 0", "4 0 -3 10");
        ran("LANE; OUT 0 0", "0 1 2 3");
        ran("INPUT 2; LANE; ADD 0 1; OUT 0 2", "4 1 -1 13");
        ran("INPUT 2; LANE; SUB 0 1; OUT 0 2", "4 -1 -5 7");
        ran("INPUT 2; LANE; MUL 0 1; OUT 0 2", "0 0 -6 30");
        ran("INPUT 2; LANE; LESS 0 1; OUT 0 2", "0 1 1 0");
        ran("INPUT 2; INPUT 0; CONST 2; SUB 1 2; SAME 0 3; OUT 0 4", "1 0 0 0");
        ran("INPUT 2; LANE; BOTH 0 1; OUT 0 2", "0 0 1 1");
        ran("INPUT 2; NOT 0; OUT 0 1", "0 1 0 0");
        ran("INPUT 2; LANE; INPUT 0; PICK 1 0 2; OUT 0 3", "6 0 -3 10");
        ran("GET 1; OUT 0 0", "0 0 0 0");
        ran("INPUT 2; PUT 1 0; GET 1; OUT 0 2; PUT 1 2", "4 0 -3 10");
        ran("INPUT 2; CONST 2147483647; ADD 0 1; OUT 0 2", "-2147483645 2147483647 2147483644 -2147483639");
        ran("INPUT 2; CONST 1000000000; MUL 0 1; OUT 0 2", (4 * 1000000000) + " 0 " + (-3 * 1000000000) + " " + (10 * 1000000000));
        ran("LANE; OUT 0 0; INPUT 2; OUT 0 2", "4 0 -3 10");
        ran("", "0 0 0 0");
    }

    private static void neighbours() {
        ran("INPUT 2; ACROSS 0; OUT 0 1", "-4 -4 13 13");
        ran("INPUT 2; DOWN 0; OUT 0 1", "-7 10 -7 10");
        ran("INPUT 2; ANY 0; OUT 0 1", "1 1 1 1");
        ran("LANE; CONST 9; LESS 1 0; ANY 2; OUT 0 3", "0 0 0 0");
        ran("LANE; NOT 0; ANY 1; OUT 0 2", "1 1 1 1");
        ran("LANE; CONST 3; SAME 0 1; ANY 2; OUT 0 3", "1 1 1 1");
        ran("INPUT 2; FIRST 0; OUT 0 1", "4 4 4 4");
        // Only those that are ON count for ANY and FIRST.
        ran("LANE; CONST 2; INPUT 2; LESS 0 1; IF 3; FIRST 2; OUT 0 5; ELSE; FIRST 2; OUT 0 8; END", "4 4 -3 -3");
        ran("LANE; CONST 3; SAME 0 1; IF 0; ANY 2; OUT 0 4; ELSE; ANY 2; OUT 0 7; END", "0 1 1 1");
    }

    private static void ifs() {
        ran("LANE; CONST 7; IF 0; OUT 0 1; END", "0 7 7 7");
        ran("LANE; CONST 7; IF 0; OUT 0 1; ELSE; CONST 8; OUT 0 5; END", "8 7 7 7");
        ran("INPUT 2; LANE; IF 0; IF 1; OUT 0 1; ELSE; OUT 0 0; END; END", "4 0 2 3");
        // A VARIABLE that only some put is as it was for the others.
        ran("LANE; CONST 5; PUT 0 1; IF 0; PUT 0 0; END; GET 0; OUT 0 6", "5 1 2 3");
        LaneDesk desk = ran("CONST 0; IF 0; OUT 0 0; ELSE; CONST 3; OUT 0 4; END", "3 3 3 3");
        Bench.due("ELSE is no step if the first part was left out", desk.state(0), 3);
    }

    private static void loops() {
        // Each lane leaves after as many rounds as its number and one.
        ran("LANE; CONST 1; LOOP; GET 0; ADD 3 1; PUT 0 4; LESS 3 0; NOT 6; IF 7; BREAK; END; AGAIN; GET 0; OUT 0 12",
                "1 2 3 4");
        // Those that left the inner LOOP are back in the next round of the outer one.
        ran("LANE; CONST 1; LOOP; LOOP; GET 0; ADD 4 1; PUT 0 5; LESS 4 0; NOT 7; IF 8; BREAK; END; AGAIN;"
                + " GET 1; ADD 13 1; PUT 1 14; CONST 2; LESS 13 16; NOT 17; IF 18; BREAK; END; AGAIN; GET 0; OUT 0 23",
                "3 4 5 6");
        // At END of an IF around the LOOP all are ON again.
        ran("LANE; CONST 1; IF 0; LOOP; BREAK; AGAIN; OUT 0 1; END", "0 1 1 1");
        // A BREAK takes lanes out of the IFs within the LOOP: behind END they are not ON.
        ran("LANE; CONST 1; LOOP; IF 0; BREAK; END; OUT 0 1; BREAK; AGAIN", "1 0 0 0");
        ran("LANE; CONST 1; LOOP; IF 1; IF 0; BREAK; END; OUT 0 1; END; BREAK; AGAIN", "1 0 0 0");
        ran("LANE; CONST 1; LOOP; IF 0; BREAK; ELSE; OUT 0 1; END; BREAK; AGAIN", "1 0 0 0");
        ran("LANE; CONST 1; LOOP; IF 0; OUT 0 1; ELSE; BREAK; END; OUT 0 0; BREAK; AGAIN", "0 1 2 3");
    }

    private static void drops() {
        // The dropped ones put no output and do not count, but they help with differences and keep VARIABLES.
        LaneDesk desk = ran("LANE; INPUT 2; IF 0; DROP; END; ACROSS 1; OUT 0 5; ANY 0; PUT 0 7; FIRST 1; PUT 1 9; DOWN 1; PUT 2 11;"
                + " GET 0; OUT 1 13; GET 1; OUT 2 15; GET 2; OUT 3 17", "-4 0 0 0");
        Bench.dueRow("ANY without the dropped ones", Bench.keeps(desk, 0), "0 0 0 0");
        Bench.dueRow("FIRST without the dropped ones", Bench.keeps(desk, 1), "4 4 4 4");
        Bench.dueRow("DOWN with the dropped ones", Bench.keeps(desk, 2), "-7 10 -7 10");
        Bench.due("dropped", desk.state(1), 14);
        Bench.due("but ON", desk.state(2), 15);
        ran("LANE; OUT 0 0; DROP; CONST 9; OUT 0 3", "0 1 2 3");
        desk = ran("LANE; DROP; FIRST 0; PUT 0 2; CONST 1; ANY 4; PUT 1 5; GET 0; OUT 1 7; GET 1; OUT 1 9", "0 0 0 0");
        Bench.dueRow("FIRST without any", Bench.keeps(desk, 0), "0 0 0 0");
        Bench.dueRow("ANY without any", Bench.keeps(desk, 1), "0 0 0 0");
    }

    private static void takes() {
        LaneDesk desk = ran("INPUT 2; TAKE 1 0; OUT 0 1", "0 4 4 1");
        Bench.dueRow("the cell", Bench.keeps(desk, 5), "11 11 11 11");
        desk = ran("LANE; INPUT 2; CONST 1; SAME 0 2; IF 3; DROP; ELSE; TAKE 2 1; OUT 0 7; END; CONST 5; TAKE 2 10; PUT 0 11; GET 0; OUT 0 13",
                "11 0 16 21");
        Bench.dueRow("what was taken: 0 for the dropped one", Bench.keeps(desk, 0), "11 0 16 21");
        Bench.due("the cell", desk.kept(0, 6), 26);
        desk = ran("CONST 2147483647; TAKE 0 0; OUT 0 1", "0 2147483647 -2 2147483645");
        Bench.due("the cell wraps", desk.kept(3, 4), -4);
    }

    private static void shortRuns() {
        LaneDesk desk = Bench.desk("CONST 3; LANE; LANE; ADD 0 2; ADD 1 0; SUB 3 4; PUT 1 4; PUT 0 1; GET 0; ADD 8 5; OUT 0 9; OUT 1 4; OUT 2 0");
        Bench.due("run", desk.run(false), LaneDesk.DONE);
        Bench.due("all steps", desk.state(0), 13);
        Bench.dueRow("variable 1", Bench.keeps(desk, 1), "3 4 5 6");
        Bench.due("short run", desk.run(true), LaneDesk.DONE);
        // LANE, ADD, PUT 0, GET 0 and the three OUTs.
        Bench.due("steps of the short run", desk.state(0), 7);
        Bench.due("next line", desk.state(3), 13);
        Bench.dueRow("output 0", Bench.outs(desk, 0), "0 1 2 3");
        Bench.dueRow("output 1", Bench.outs(desk, 1), "3 4 5 6");
        Bench.dueRow("output 2", Bench.outs(desk, 2), "3 3 3 3");
        Bench.dueRow("variable 0 is put", Bench.keeps(desk, 0), "0 1 2 3");
        Bench.dueRow("variable 1 is not", Bench.keeps(desk, 1), "0 0 0 0");
        LaneDesk full = new LaneDesk();
        for (int i = 0; i < 48; i++) {
            full.add(11, 0, 0, 0);
        }
        Bench.due("all 48 lines are passed over", full.run(true), LaneDesk.DONE);
        Bench.dueRow("no step", Bench.states(full), "0 0 15 48 0");
        LaneDesk empty = Bench.desk("LANE; PUT 0 0; CONST 4");
        Bench.due("nothing is needed", empty.run(true), LaneDesk.DONE);
        Bench.dueRow("no step", Bench.states(empty), "0 0 15 3 0");
    }

    private static void longRuns() {
        LaneDesk desk = Bench.desk("LOOP; AGAIN");
        Bench.due("without an end", desk.run(false), LaneDesk.LONG);
        Bench.dueRow("it", Bench.states(desk), "400 0 15 1 399");
        desk = Bench.desk("LOOP; LANE; PUT 0 1; AGAIN");
        Bench.due("without an end", desk.run(false), LaneDesk.LONG);
        Bench.dueRow("it", Bench.states(desk), "400 0 15 1 133");
        Bench.due("short and without an end", desk.run(true), LaneDesk.LONG);
        Bench.dueRow("it", Bench.states(desk), "400 0 15 3 399");
        // Outputs of a LONG run are those that were put before it ended.
        desk = Bench.desk("CONST 1; LOOP; GET 0; ADD 2 0; PUT 0 3; OUT 0 3; AGAIN");
        Bench.due("counting on", desk.run(false), LaneDesk.LONG);
        Bench.dueRow("how far", Bench.outs(desk, 0), "79 79 79 79");
        Bench.dueRow("the variable", Bench.keeps(desk, 0), "80 80 80 80");
        Bench.dueRow("it", Bench.states(desk), "400 0 15 5 79");
        exactly400();
    }

    // Every round takes eight steps, ELSE or BREAK being left out; lines behind fill up the rest.
    private static void exactly400() {
        String counting = "CONST 48; CONST 1; LOOP; GET 0; ADD 3 1; PUT 0 4; LESS 4 0; IF 6; ELSE; BREAK; END; AGAIN";
        LaneDesk probe = Bench.desk(counting);
        probe.run(false);
        int rest = 400 - probe.state(0);
        Bench.due("steps so far", probe.state(0), 3 + 48 * 8);
        Bench.due("there is room for more lines", rest > 0 && rest < 36, true);
        for (int i = 0; i < rest; i++) {
            probe.add(2, 0, 0, 0);
        }
        Bench.due("400 steps are DONE", probe.run(false), LaneDesk.DONE);
        Bench.dueRow("it", Bench.states(probe), "400 0 15 " + (12 + rest) + " 47");
        probe.add(2, 0, 0, 0);
        Bench.due("401 steps are LONG", probe.run(false), LaneDesk.LONG);
        Bench.dueRow("it", Bench.states(probe), "400 0 15 " + (12 + rest) + " 47");
        Bench.due("the short run does without them", probe.run(true), LaneDesk.DONE);
    }

    private static void wrongOnes() {
        LaneDesk desk = Bench.desk("LANE; OUT 0 0; PUT 1 0; TAKE 2 0; DROP");
        Bench.due("run", desk.run(false), LaneDesk.DONE);
        for (String program : new String[] {"END", "NOT 7", "LANE; IF 0; LANE; END; NOT 2", "LOOP", "LANE; IF 0; DOWN 0; END"}) {
            desk.wipe();
            Bench.load(desk, program);
            Bench.due("run of " + program, desk.run(false), LaneDesk.BAD);
            Bench.due("short run of " + program, desk.run(true), LaneDesk.BAD);
            Bench.dueRow("state is as it was", Bench.states(desk), "5 15 15 5 0");
            Bench.dueRow("outputs are as they were", Bench.outs(desk, 0), "0 1 2 3");
            Bench.dueRow("variables are as they were", Bench.keeps(desk, 1), "0 1 2 3");
            Bench.dueRow("cells are as they were", Bench.keeps(desk, 6), "6 6 6 6");
        }
        // A further run begins with all at 0.
        desk.wipe();
        Bench.due("run of no lines", desk.run(false), LaneDesk.DONE);
        Bench.dueRow("state", Bench.states(desk), "0 0 15 0 0");
        Bench.dueRow("outputs", Bench.outs(desk, 0), "0 0 0 0");
        Bench.dueRow("variables", Bench.keeps(desk, 1), "0 0 0 0");
        Bench.dueRow("cells", Bench.keeps(desk, 6), "0 0 0 0");
    }
}
