/** The edges of promise 14: which refusal comes first, that a refused call changes nothing, and what a wipe leaves. */
public final class EdgePromise14Test {
    public static void main(String[] args) {
        badBeforeFull();
        nothingChangesWithBad();
        nothingChangesWithFull();
        innermostOpen();
        whatWipeLeaves();
        beforeAnyRun();
        eachLanesOwn();
        cellsOfAll();
        breakWithinTheLoopAlone();
        askingChangesNothing();
        Bench.end();
    }

    private static void badBeforeFull() {
        Bench.sentence("add tests BAD before FULL; with either nothing changes.");
        LaneDesk desk = Bench.desk("LANE" + Bench.times(47, "LANE"));
        for (int op : new int[] {-1, 26, Integer.MIN_VALUE, Integer.MAX_VALUE}) {
            Bench.due("op " + op + " with 48", desk.add(op, 0, 0, 0), LaneDesk.BAD);
        }
        for (int op : new int[] {1, 11, 16, 17, 18}) {
            Bench.due("op " + op + ", a -1 with 48", desk.add(op, -1, 0, 0), LaneDesk.BAD);
            Bench.due("op " + op + ", a 4 with 48", desk.add(op, 4, 0, 0), LaneDesk.BAD);
            Bench.due("op " + op + ", a 0 with 48", desk.add(op, 0, 0, 0), LaneDesk.FULL);
            Bench.due("op " + op + ", a 3 with 48", desk.add(op, 3, 0, 0), LaneDesk.FULL);
        }
        for (int op = 0; op <= 25; op++) {
            Bench.due("op " + op + " with 48", desk.add(op, 0, -1, 99), LaneDesk.FULL);
        }
    }

    private static void nothingChangesWithBad() {
        Bench.sentence("add tests BAD before FULL; with either nothing changes.");
        LaneDesk desk = Bench.desk("INPUT 2; CONST 3; ADD 0 1; OUT 0 2; PUT 1 2");
        Bench.inputs(desk, 2, "5 6 7 8");
        desk.run(false);
        String told = Bench.told(desk);
        String looked = Bench.looked(desk, 5);
        Bench.due("a bad op", desk.add(26, 1, 1, 1), LaneDesk.BAD);
        Bench.due("a bad op", desk.add(-1, 1, 1, 1), LaneDesk.BAD);
        Bench.due("a bad a", desk.add(18, 4, 1, 1), LaneDesk.BAD);
        Bench.dueRow("the latest run", Bench.told(desk), told);
        Bench.dueRow("the lines", Bench.looked(desk, 5), looked);
        Bench.due("run", desk.run(false), LaneDesk.DONE);
        Bench.dueRow("and its outputs", Bench.outs(desk, 0), "8 9 10 11");
        Bench.due("five lines", desk.wipe(), 5);
    }

    private static void nothingChangesWithFull() {
        Bench.sentence("add tests BAD before FULL; with either nothing changes.");
        LaneDesk desk = Bench.desk("LANE; CONST 7" + Bench.times(45, "ADD 0 1") + "; OUT 0 46");
        Bench.due("run", desk.run(false), LaneDesk.DONE);
        Bench.due("a good line", desk.add(25, 0, 0, 0), LaneDesk.FULL);
        Bench.due("a line that would be wrong", desk.add(21, 0, 0, 0), LaneDesk.FULL);
        Bench.due("a bad line", desk.add(26, 0, 0, 0), LaneDesk.BAD);
        Bench.due("check", desk.check(), 0);
        Bench.due("place", desk.place(), -1);
        Bench.dueRow("outputs", Bench.outs(desk, 0), "7 8 9 10");
        Bench.dueRow("state", Bench.states(desk), "48 0 15 48 0");
        Bench.due("line 0", desk.lanes(0, 0), 1);
        Bench.due("line 1", desk.shorter(1, 2), 7);
        Bench.due("line 46", desk.shorter(46, 1), 2);
        Bench.due("line 47", desk.shorter(47, 0), 1);
        Bench.due("run", desk.run(false), LaneDesk.DONE);
        Bench.dueRow("outputs", Bench.outs(desk, 0), "7 8 9 10");
        Bench.dueRow("state", Bench.states(desk), "48 0 15 48 0");
        Bench.due("48 lines", desk.wipe(), 48);
    }

    private static void innermostOpen() {
        Bench.sentence("ELSE and END need an IF, AGAIN a LOOP, that is the innermost IF or LOOP open there; else that is 1, also where one further out is open.");
        Bench.dueCheck("LANE; IF 0; LOOP; ELSE; BREAK; AGAIN; END", 1, 3);
        Bench.dueCheck("LANE; IF 0; LOOP; BREAK; END; AGAIN", 1, 4);
        Bench.dueCheck("LANE; LOOP; IF 0; BREAK; AGAIN; END", 1, 4);
        Bench.dueCheck("LANE; LOOP; IF 0; ELSE; BREAK; AGAIN; END", 1, 5);
        Bench.dueCheck("LANE; IF 0; ELSE; LOOP; END", 1, 4);
        Bench.dueCheck("LANE; IF 0; ELSE; LOOP; ELSE", 1, 4);
        Bench.dueCheck("LANE; IF 0; LOOP; IF 0; ELSE; AGAIN", 1, 5);
        // The inner one is closed: the one further out is the innermost again.
        Bench.dueCheck("LANE; IF 0; LOOP; BREAK; AGAIN; ELSE; LOOP; BREAK; AGAIN; END", 0, -1);
        Bench.dueCheck("LANE; LOOP; IF 0; BREAK; ELSE; BREAK; END; AGAIN", 0, -1);
    }

    private static void whatWipeLeaves() {
        Bench.sentence("wipe leaves INPUTS and what is told of the latest run");
        LaneDesk desk = Bench.desk("INPUT 2; INPUT 0; ADD 0 1; OUT 3 2; PUT 2 2; TAKE 1 2; LANE; IF 6; DROP; END; CONST 1; LOOP; GET 0; PUT 0 10;"
                + " IF 12; BREAK; END; AGAIN");
        Bench.inputs(desk, 2, "5 6 7 8");
        desk.input(1, 0, 10);
        Bench.due("run", desk.run(false), LaneDesk.DONE);
        String told = Bench.told(desk);
        Bench.dueRow("state", Bench.states(desk), "23 14 15 18 1");
        Bench.due("wipe", desk.wipe(), 18);
        Bench.dueRow("told behind a wipe", Bench.told(desk), told);
        Bench.due("wipe of nothing", desk.wipe(), 0);
        Bench.dueRow("told behind another wipe", Bench.told(desk), told);
        Bench.load(desk, "INPUT 2; INPUT 0; ADD 0 1; OUT 1 2");
        Bench.due("run", desk.run(false), LaneDesk.DONE);
        Bench.dueRow("the inputs are as they were", Bench.outs(desk, 1), "15 16 17 18");
    }

    private static void beforeAnyRun() {
        Bench.sentence("before any run all of state (0 to 4) are 0.");
        LaneDesk desk = new LaneDesk();
        Bench.dueRow("at first", Bench.states(desk), "0 0 0 0 0");
        Bench.load(desk, "LANE; DROP; LOOP");
        Bench.dueRow("with lines", Bench.states(desk), "0 0 0 0 0");
        desk.check();
        Bench.due("a run that is refused", desk.run(false), LaneDesk.BAD);
        Bench.dueRow("behind a refused run", Bench.states(desk), "0 0 0 0 0");
        desk.wipe();
        Bench.dueRow("behind a wipe", Bench.states(desk), "0 0 0 0 0");
        desk.input(0, 0, 5);
        Bench.dueRow("behind an input", Bench.states(desk), "0 0 0 0 0");
        Bench.due("a run of no lines is a run", desk.run(false), LaneDesk.DONE);
        Bench.dueRow("behind a run", Bench.states(desk), "0 0 15 0 0");
    }

    private static void eachLanesOwn() {
        Bench.sentence("VARIABLES and OUTPUTS are each LANE's own");
        for (int lane = 0; lane < 4; lane++) {
            String own = (lane == 0 ? 9 : 0) + " " + (lane == 1 ? 9 : 0) + " " + (lane == 2 ? 9 : 0) + " " + (lane == 3 ? 9 : 0);
            LaneDesk desk = Bench.desk("LANE; CONST " + lane + "; SAME 0 1; CONST 9; IF 2; PUT 3 3; OUT 3 3; END; GET 3; OUT 2 8");
            desk.run(false);
            Bench.dueRow("variable of lane " + lane, Bench.keeps(desk, 3), own);
            Bench.dueRow("output of lane " + lane, Bench.outs(desk, 3), own);
            Bench.dueRow("got by lane " + lane, Bench.outs(desk, 2), own);
            Bench.dueRow("no other variable", Bench.keeps(desk, 2), "0 0 0 0");
        }
    }

    private static void cellsOfAll() {
        Bench.sentence("the CELLS are the same four for all LANES.");
        LaneDesk desk = Bench.desk("LANE; CONST 3; SAME 0 1; CONST 9; IF 2; TAKE 0 3; END; CONST 0; TAKE 0 7; OUT 0 8; TAKE 1 3; OUT 1 10");
        desk.run(false);
        Bench.dueRow("what lane 3 alone added, all take", Bench.outs(desk, 0), "9 9 9 9");
        Bench.dueRow("another cell", Bench.outs(desk, 1), "0 9 18 27");
        Bench.dueRow("cell 0", Bench.keeps(desk, 4), "9 9 9 9");
        Bench.dueRow("cell 1", Bench.keeps(desk, 5), "36 36 36 36");
        Bench.dueRow("cell 2", Bench.keeps(desk, 6), "0 0 0 0");
        Bench.dueRow("cell 3", Bench.keeps(desk, 7), "0 0 0 0");
    }

    private static void breakWithinTheLoopAlone() {
        Bench.sentence("BREAK takes LANES out of the innermost LOOP and of the IFs within that LOOP alone: behind its AGAIN, and at END of an IF around that LOOP, they are ON again.");
        String nought = "0 0 0 0";
        // Behind its AGAIN.
        Bench.dueBothWays("INPUT 2; CONST 9; LOOP; IF 0; BREAK; END; BREAK; AGAIN; OUT 0 1", "1 0 1 0", nought, "9 9 9 9");
        // At END of an IF around that LOOP, and in it behind the AGAIN.
        Bench.dueBothWays("INPUT 2; CONST 9; IF 0; LOOP; BREAK; AGAIN; OUT 0 1; END", "1 0 1 0", nought, "9 0 9 0");
        Bench.dueBothWays("INPUT 2; CONST 9; IF 0; LOOP; BREAK; AGAIN; END; OUT 0 1", "1 0 1 0", nought, "9 9 9 9");
        // The second part of that IF is not touched.
        Bench.dueBothWays("INPUT 2; CONST 9; IF 0; LOOP; BREAK; AGAIN; ELSE; OUT 0 1; END", "1 0 1 0", nought, "0 9 0 9");
        // IF around LOOP around IF around LOOP: each BREAK ends at its own.
        Bench.dueBothWays("INPUT 2; CONST 9; IF 0; LOOP; IF 0; LOOP; BREAK; AGAIN; OUT 0 1; BREAK; END; OUT 0 0; BREAK; AGAIN; OUT 1 1; END; OUT 2 1",
                "1 0 1 0", nought, "9 0 9 0");
        LaneDesk desk = Bench.desk("INPUT 2; CONST 9; IF 0; LOOP; IF 0; LOOP; BREAK; AGAIN; OUT 0 1; BREAK; END; OUT 0 0; BREAK; AGAIN; OUT 1 1; END; OUT 2 1");
        Bench.inputs(desk, 2, "1 0 1 0");
        desk.run(false);
        Bench.dueRow("behind the outer AGAIN", Bench.outs(desk, 1), "9 0 9 0");
        Bench.dueRow("behind the outer END", Bench.outs(desk, 2), "9 9 9 9");
        Bench.dueRow("state", Bench.states(desk), "15 0 15 17 0");
        // In a further round of an outer LOOP they go into the inner one again.
        desk = Bench.desk("CONST 1; LOOP; LOOP; TAKE 0 0; BREAK; AGAIN; GET 0; PUT 0 0; IF 6; BREAK; END; AGAIN");
        desk.run(false);
        Bench.due("twice by all four", desk.kept(0, 4), 8);
    }

    private static void askingChangesNothing() {
        Bench.sentence("Nothing is promised beyond the answers and state changes described above");
        LaneDesk desk = Bench.desk("LANE; INPUT 3; OUT 0 1; PUT 0 0; TAKE 0 0; IF 0; DROP; END");
        Bench.inputs(desk, 3, "4 3 2 1");
        desk.run(false);
        String told = Bench.told(desk);
        String looked = Bench.looked(desk, 8);
        Bench.dueRow("asked again", Bench.told(desk) + Bench.looked(desk, 8), told + looked);
        Bench.due("and run again", desk.run(false), LaneDesk.DONE);
        Bench.dueRow("told again", Bench.told(desk), told);
    }
}
