/** Promise 2: add gives the number of the new line, BAD for what is no line, FULL with 48. */
public final class Promise02AddTest {
    public static void main(String[] args) {
        LaneDesk desk = new LaneDesk();
        Bench.due("op -1", desk.add(-1, 0, 0, 0), LaneDesk.BAD);
        Bench.due("op 26", desk.add(26, 0, 0, 0), LaneDesk.BAD);
        Bench.due("least op", desk.add(Integer.MIN_VALUE, 0, 0, 0), LaneDesk.BAD);
        Bench.due("greatest op", desk.add(Integer.MAX_VALUE, 0, 0, 0), LaneDesk.BAD);
        int[] numbered = {1, 11, 16, 17, 18};
        for (int op : numbered) {
            Bench.due("a -1 of " + op, desk.add(op, -1, 0, 0), LaneDesk.BAD);
            Bench.due("a 4 of " + op, desk.add(op, 4, 0, 0), LaneDesk.BAD);
            Bench.due("least a of " + op, desk.add(op, Integer.MIN_VALUE, 0, 0), LaneDesk.BAD);
        }
        Bench.due("nothing was added", desk.wipe(), 0);
        int lines = 0;
        for (int op : numbered) {
            Bench.due("a 0 of " + op, desk.add(op, 0, -9, 99), lines++);
            Bench.due("a 3 of " + op, desk.add(op, 3, -9, 99), lines++);
        }
        for (int op = 0; op <= 25; op++) {
            boolean plain = op != 1 && op != 11 && op != 16 && op != 17 && op != 18;
            if (plain) {
                Bench.due("other numbers of " + op, desk.add(op, -77, 1000, 48), lines++);
            }
        }
        while (lines < 48) {
            Bench.due("line " + lines, desk.add(2, 0, 0, 0), lines++);
        }
        Bench.due("line 48", desk.add(2, 0, 0, 0), LaneDesk.FULL);
        Bench.due("again", desk.add(0, 1, 0, 0), LaneDesk.FULL);
        Bench.due("all of them", desk.wipe(), 48);
        Bench.due("numbers begin anew", desk.add(0, 1, 0, 0), 0);
        Bench.end();
    }
}
