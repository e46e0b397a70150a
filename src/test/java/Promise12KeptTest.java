/** Promise 12: a variable of a lane, or a cell, at the end of the latest run; 0 if there is none. */
public final class Promise12KeptTest {
    public static void main(String[] args) {
        LaneDesk desk = Bench.desk("LANE; CONST 10; PUT 0 0; PUT 3 1; TAKE 0 1; TAKE 3 0; PUT 1 4; GET 1; OUT 0 7");
        Bench.dueRow("before a run", Bench.keeps(desk, 0), "0 0 0 0");
        Bench.dueRow("before a run", Bench.keeps(desk, 4), "0 0 0 0");
        desk.run(false);
        Bench.dueRow("variable 0", Bench.keeps(desk, 0), "0 1 2 3");
        Bench.dueRow("variable 1", Bench.keeps(desk, 1), "0 10 20 30");
        Bench.dueRow("variable 2", Bench.keeps(desk, 2), "0 0 0 0");
        Bench.dueRow("variable 3", Bench.keeps(desk, 3), "10 10 10 10");
        Bench.dueRow("cell 0", Bench.keeps(desk, 4), "40 40 40 40");
        Bench.dueRow("cell 1", Bench.keeps(desk, 5), "0 0 0 0");
        Bench.dueRow("cell 2", Bench.keeps(desk, 6), "0 0 0 0");
        Bench.dueRow("cell 3", Bench.keeps(desk, 7), "6 6 6 6");
        int[] none = {-1, 8, Integer.MIN_VALUE, Integer.MAX_VALUE};
        for (int wrong : none) {
            for (int lane = 0; lane < 4; lane++) {
                Bench.due("number " + wrong, desk.kept(lane, wrong), 0);
            }
            for (int k = 0; k < 8; k++) {
                Bench.due("lane " + wrong, desk.kept(wrong, k), 0);
            }
        }
        Bench.due("lane 4", desk.kept(4, 3), 0);
        desk.run(true);
        Bench.dueRow("a short run puts what is needed", Bench.keeps(desk, 1), "0 10 20 30");
        Bench.dueRow("and no other", Bench.keeps(desk, 3), "0 0 0 0");
        Bench.dueRow("but takes", Bench.keeps(desk, 7), "6 6 6 6");
        desk.wipe();
        desk.run(false);
        Bench.dueRow("of the latest run", Bench.keeps(desk, 1), "0 0 0 0");
        Bench.dueRow("of the latest run", Bench.keeps(desk, 7), "0 0 0 0");
        Bench.end();
    }
}
