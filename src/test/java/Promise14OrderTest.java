/** Promise 14: order and limits. */
public final class Promise14OrderTest {
    public static void main(String[] args) {
        badBeforeFull();
        innermost();
        whatWipeLeaves();
        ownAndShared();
        breaks();
        Bench.end();
    }

    private static void badBeforeFull() {
        LaneDesk desk = new LaneDesk();
        for (int i = 0; i < 48; i++) {
            desk.add(0, i, 0, 0);
        }
        Bench.due("FULL", desk.add(0, 0, 0, 0), LaneDesk.FULL);
        Bench.due("BAD before FULL: op", desk.add(26, 0, 0, 0), LaneDesk.BAD);
        Bench.due("BAD before FULL: op", desk.add(-1, 0, 0, 0), LaneDesk.BAD);
        for (int op : new int[] {1, 11, 16, 17, 18}) {
            Bench.due("BAD before FULL: a of " + op, desk.add(op, 4, 0, 0), LaneDesk.BAD);
            Bench.due("FULL: a of " + op, desk.add(op, 3, 0, 0), LaneDesk.FULL);
        }
        Bench.due("still in order", desk.check(), 0);
        for (int i = 0; i < 48; i++) {
            Bench.due("line " + i + " is as it was", desk.shorter(i, 2), i);
        }
        Bench.due("48 lines", desk.wipe(), 48);
    }

    private static void innermost() {
        String[] programs = {"LANE; IF 0; LOOP; ELSE", "LANE; IF 0; LOOP; END", "LANE; LOOP; IF 0; AGAIN"};
        for (String program : programs) {
            LaneDesk desk = Bench.desk(program);
            Bench.due("check of " + program, desk.check(), 1);
            Bench.due("place of " + program, desk.place(), 3);
        }
    }

    private static void whatWipeLeaves() {
        LaneDesk desk = Bench.desk("INPUT 3; OUT 0 0; PUT 2 0; TAKE 1 0; LANE; IF 4; DROP; END");
        desk.input(2, 3, 8);
        desk.input(2, 1, 5);
        desk.run(false);
        desk.wipe();
        Bench.dueRow("state", Bench.states(desk), "8 14 15 8 0");
        Bench.dueRow("outputs", Bench.outs(desk, 0), "0 0 8 0");
        Bench.dueRow("variables", Bench.keeps(desk, 2), "0 0 8 0");
        Bench.dueRow("cells", Bench.keeps(desk, 5), "8 8 8 8");
        Bench.load(desk, "INPUT 3; OUT 1 0; INPUT 1; OUT 2 2");
        Bench.dueRow("lines that were not run change nothing", Bench.states(desk), "8 14 15 8 0");
        desk.run(false);
        Bench.dueRow("inputs", Bench.outs(desk, 1), "0 0 8 0");
        Bench.dueRow("inputs", Bench.outs(desk, 2), "5 5 5 5");
        Bench.dueRow("outputs begin anew", Bench.outs(desk, 0), "0 0 0 0");
        Bench.dueRow("state", Bench.states(desk), "4 0 15 4 0");
    }

    private static void ownAndShared() {
        LaneDesk desk = Bench.desk("LANE; PUT 0 0; OUT 0 0; TAKE 0 0; CONST 1; TAKE 0 4; OUT 1 5");
        desk.run(false);
        Bench.dueRow("each its own variable", Bench.keeps(desk, 0), "0 1 2 3");
        Bench.dueRow("each its own output", Bench.outs(desk, 0), "0 1 2 3");
        Bench.dueRow("one cell for all", Bench.keeps(desk, 4), "10 10 10 10");
        Bench.dueRow("one after the other", Bench.outs(desk, 1), "6 7 8 9");
    }

    private static void breaks() {
        // Lanes 1 to 3 are in the IF; of them 2 and 3 leave the LOOP at once, 1 a round later.
        LaneDesk desk = Bench.desk("LANE; CONST 1; IF 0; LOOP; LESS 1 0; GET 0; BOTH 1 5; IF 4; BREAK; ELSE; IF 6; BREAK; END; END;"
                + " PUT 0 1; CONST 1; GET 1; ADD 16 1; PUT 1 17; AGAIN; CONST 7; OUT 0 20; END; OUT 1 1");
        Bench.due("run", desk.run(false), LaneDesk.DONE);
        Bench.dueRow("behind AGAIN all of the IF are ON", Bench.outs(desk, 0), "0 7 7 7");
        Bench.dueRow("behind END all are ON", Bench.outs(desk, 1), "1 1 1 1");
        Bench.dueRow("only lane 1 went on in the round", Bench.keeps(desk, 1), "0 1 0 0");
        Bench.due("one more round", desk.state(4), 1);
        Bench.due("ON in the end", desk.state(2), 15);
    }
}
