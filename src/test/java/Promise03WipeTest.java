/** Promise 3: wipe takes all lines away and tells how many there were. */
public final class Promise03WipeTest {
    public static void main(String[] args) {
        LaneDesk desk = new LaneDesk();
        Bench.due("no lines", desk.wipe(), 0);
        Bench.load(desk, "LANE; OUT 0 0; END");
        Bench.due("wrong before", desk.check(), 1);
        Bench.due("a line that was not taken", desk.add(26, 0, 0, 0), LaneDesk.BAD);
        Bench.due("three lines", desk.wipe(), 3);
        Bench.due("none are left", desk.wipe(), 0);
        Bench.due("nothing is wrong now", desk.check(), 0);
        Bench.due("no place", desk.place(), -1);
        Bench.due("no line 0", desk.lanes(0, 2), LaneDesk.BAD);
        Bench.due("numbers begin anew", desk.add(2, 0, 0, 0), 0);
        Bench.due("an empty row is no fault of the old lines", desk.lanes(0, 0), 1);
        Bench.end();
    }
}
