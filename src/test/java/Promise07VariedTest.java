/** Promise 7: whether a variable is varied. */
public final class Promise07VariedTest {
    private static void varied(String program, String want) {
        LaneDesk desk = Bench.desk(program);
        String got = desk.varied(0) + " " + desk.varied(1) + " " + desk.varied(2) + " " + desk.varied(3);
        Bench.dueRow("varied in " + program, got, want);
    }

    public static void main(String[] args) {
        varied("", "0 0 0 0");
        varied("LANE; PUT 0 0", "1 0 0 0");
        varied("CONST 1; PUT 3 0; INPUT 1; PUT 2 2; INPUT 2; PUT 1 4", "0 1 0 0");
        varied("LANE; ANY 0; PUT 0 1; FIRST 0; PUT 1 3; TAKE 0 0; PUT 2 5", "0 0 1 0");
        varied("CONST 1; LANE; IF 1; PUT 0 0; ELSE; PUT 1 0; END; PUT 2 0", "1 1 0 0");
        varied("CONST 1; IF 0; PUT 0 0; ELSE; PUT 1 0; END", "0 0 0 0");
        varied("CONST 1; LANE; LOOP; PUT 0 0; IF 1; BREAK; END; PUT 1 0; AGAIN; PUT 2 0", "1 1 0 0");
        varied("GET 0; PUT 1 0; GET 1; PUT 2 2; GET 2; PUT 3 4; LANE; PUT 0 6", "1 1 1 1");
        varied("GET 0; PUT 1 0; GET 1; PUT 2 2; GET 2; PUT 3 4; CONST 1; PUT 0 6", "0 0 0 0");
        // One PUT that is varied is enough, and a later one does not undo it.
        varied("LANE; PUT 0 0; CONST 1; PUT 0 2", "1 0 0 0");
        // Wrong of 4 still tells, wrong of 1 to 3 does not.
        varied("LANE; IF 0; DOWN 0; PUT 3 2; END", "0 0 0 1");
        varied("LANE; PUT 0 0; END", "-1 -1 -1 -1");
        varied("LANE; PUT 0 1", "-1 -1 -1 -1");
        varied("LANE; IF 0; LANE; END; PUT 0 2", "-1 -1 -1 -1");
        varied("LANE; IF 0", "-1 -1 -1 -1");
        LaneDesk desk = Bench.desk("LANE; PUT 0 0");
        Bench.due("variable -1", desk.varied(-1), LaneDesk.BAD);
        Bench.due("variable 4", desk.varied(4), LaneDesk.BAD);
        Bench.due("the least variable", desk.varied(Integer.MIN_VALUE), LaneDesk.BAD);
        Bench.due("the greatest variable", desk.varied(Integer.MAX_VALUE), LaneDesk.BAD);
        desk.wipe();
        Bench.due("wiped", desk.varied(0), 0);
        Bench.end();
    }
}
