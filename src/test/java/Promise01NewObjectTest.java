/** Promise 1: no lines, all inputs 0, nothing was run; and the constants of the face. */
public final class Promise01NewObjectTest {
    public static void main(String[] args) {
        LaneDesk desk = new LaneDesk();
        Bench.due("BAD", LaneDesk.BAD, -1);
        Bench.due("FULL", LaneDesk.FULL, -2);
        Bench.due("DONE", LaneDesk.DONE, 0);
        Bench.due("LONG", LaneDesk.LONG, 1);
        Bench.dueRow("state before a run", Bench.states(desk), "0 0 0 0 0");
        for (int k = 0; k < 4; k++) {
            Bench.dueRow("out " + k + " before a run", Bench.outs(desk, k), "0 0 0 0");
            Bench.dueRow("variable " + k + " before a run", Bench.keeps(desk, k), "0 0 0 0");
            Bench.dueRow("cell " + k + " before a run", Bench.keeps(desk, k + 4), "0 0 0 0");
        }
        Bench.due("lanes of no line", desk.lanes(0, 1), LaneDesk.BAD);
        Bench.due("shorter of no line", desk.shorter(0, 1), LaneDesk.BAD);
        Bench.due("wipe of no lines", desk.wipe(), 0);
        Bench.load(desk, "INPUT 0; INPUT 1; INPUT 2; INPUT 3; OUT 0 0; OUT 1 1; OUT 2 2; OUT 3 3");
        Bench.due("run", desk.run(false), LaneDesk.DONE);
        for (int k = 0; k < 4; k++) {
            Bench.dueRow("input " + k + " that was not set", Bench.outs(desk, k), "0 0 0 0");
        }
        Bench.end();
    }
}
