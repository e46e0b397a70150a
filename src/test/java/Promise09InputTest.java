/** Promise 9: an input of a lane, or of all lanes for inputs 0 and 1. */
public final class Promise09InputTest {
    private static final String SHOW = "INPUT 0; INPUT 1; INPUT 2; INPUT 3; OUT 0 0; OUT 1 1; OUT 2 2; OUT 3 3";

    private static void shows(LaneDesk desk, String zero, String one, String two, String three) {
        Bench.due("run", desk.run(false), LaneDesk.DONE);
        Bench.dueRow("input 0", Bench.outs(desk, 0), zero);
        Bench.dueRow("input 1", Bench.outs(desk, 1), one);
        Bench.dueRow("input 2", Bench.outs(desk, 2), two);
        Bench.dueRow("input 3", Bench.outs(desk, 3), three);
    }

    public static void main(String[] args) {
        LaneDesk desk = Bench.desk(SHOW);
        Bench.due("input 0", desk.input(2, 0, 11), true);
        Bench.due("input 1", desk.input(3, 1, -7), true);
        Bench.due("input 2", desk.input(1, 2, 5), true);
        Bench.due("input 3", desk.input(3, 3, Integer.MIN_VALUE), true);
        shows(desk, "11 11 11 11", "-7 -7 -7 -7", "0 5 0 0", "0 0 0 -2147483648");
        Bench.due("once more", desk.input(0, 2, Integer.MAX_VALUE), true);
        Bench.due("another number", desk.input(0, 0, 12), true);
        shows(desk, "12 12 12 12", "-7 -7 -7 -7", "2147483647 5 0 0", "0 0 0 -2147483648");
        int[] none = {-1, 4, Integer.MIN_VALUE, Integer.MAX_VALUE};
        for (int wrong : none) {
            for (int right = 0; right < 4; right++) {
                Bench.due("lane " + wrong, desk.input(wrong, right, 99), false);
                Bench.due("input " + wrong, desk.input(right, wrong, 99), false);
            }
        }
        shows(desk, "12 12 12 12", "-7 -7 -7 -7", "2147483647 5 0 0", "0 0 0 -2147483648");
        Bench.end();
    }
}
