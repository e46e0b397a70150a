/** Promise 11: an output of a lane, of the latest run; 0 if there is none. */
public final class Promise11OutTest {
    public static void main(String[] args) {
        LaneDesk desk = Bench.desk("LANE; CONST 10; ADD 0 1; OUT 0 2; OUT 1 0; OUT 3 1");
        Bench.dueRow("before a run", Bench.outs(desk, 0), "0 0 0 0");
        desk.run(false);
        Bench.dueRow("output 0", Bench.outs(desk, 0), "10 11 12 13");
        Bench.dueRow("output 1", Bench.outs(desk, 1), "0 1 2 3");
        Bench.dueRow("output 2", Bench.outs(desk, 2), "0 0 0 0");
        Bench.dueRow("output 3", Bench.outs(desk, 3), "10 10 10 10");
        int[] none = {-1, 4, 5, Integer.MIN_VALUE, Integer.MAX_VALUE};
        for (int wrong : none) {
            for (int right = 0; right < 4; right++) {
                Bench.due("lane " + wrong, desk.out(wrong, right), 0);
                Bench.due("output " + wrong, desk.out(right, wrong), 0);
            }
        }
        desk.wipe();
        Bench.load(desk, "CONST 4; OUT 2 0");
        Bench.dueRow("not run yet", Bench.outs(desk, 0), "10 11 12 13");
        desk.run(true);
        Bench.dueRow("of the latest run", Bench.outs(desk, 0), "0 0 0 0");
        Bench.dueRow("of the latest run", Bench.outs(desk, 2), "4 4 4 4");
        Bench.end();
    }
}
