/** Promise 13: steps, dropped lanes, lanes that are on, the next line, and rounds of loops of the latest run. */
public final class Promise13StateTest {
    private static void ends(String program, int how, String want) {
        LaneDesk desk = Bench.desk(program);
        Bench.due("run of " + program, desk.run(false), how);
        Bench.dueRow("state of " + program, Bench.states(desk), want);
    }

    public static void main(String[] args) {
        LaneDesk desk = new LaneDesk();
        for (int what : new int[] {-1, 5, Integer.MIN_VALUE, Integer.MAX_VALUE}) {
            Bench.due("what " + what + " before a run", desk.state(what), LaneDesk.BAD);
        }
        Bench.dueRow("before a run", Bench.states(desk), "0 0 0 0 0");
        steps();
        whereItEnds();
        desk = Bench.desk("LANE; IF 0; DROP; END");
        desk.run(false);
        Bench.dueRow("dropped", Bench.states(desk), "4 14 15 4 0");
        for (int what : new int[] {-1, 5, Integer.MIN_VALUE, Integer.MAX_VALUE}) {
            Bench.due("what " + what, desk.state(what), LaneDesk.BAD);
        }
        Bench.end();
    }

    private static void steps() {
        ends("", LaneDesk.DONE, "0 0 15 0 0");
        ends("LANE; LANE; LANE", LaneDesk.DONE, "3 0 15 3 0");
        // Both parts; the first part alone, ELSE being a step; the second alone, ELSE being none; neither.
        ends("LANE; IF 0; LANE; ELSE; LANE; LANE; END", LaneDesk.DONE, "7 0 15 7 0");
        ends("CONST 1; IF 0; LANE; ELSE; LANE; LANE; END", LaneDesk.DONE, "5 0 15 7 0");
        ends("CONST 0; IF 0; LANE; ELSE; LANE; LANE; END", LaneDesk.DONE, "5 0 15 7 0");
        ends("CONST 0; IF 0; LANE; END; LANE", LaneDesk.DONE, "4 0 15 5 0");
        ends("CONST 1; IF 0; ELSE; END", LaneDesk.DONE, "4 0 15 4 0");
        ends("CONST 0; IF 0; ELSE; END", LaneDesk.DONE, "3 0 15 4 0");
        // What stands in a part that is left out is left out with it.
        ends("CONST 0; IF 0; IF 0; LANE; ELSE; LANE; END; LOOP; AGAIN; END", LaneDesk.DONE, "3 0 15 10 0");
        ends("LOOP; BREAK; LANE; LANE; AGAIN; LANE", LaneDesk.DONE, "4 0 15 6 0");
        ends("LOOP; BREAK; LOOP; AGAIN; AGAIN", LaneDesk.DONE, "3 0 15 5 0");
        // Behind BREAK up to ELSE, then the second part; behind END the rest of the round is left out.
        ends("LANE; LOOP; IF 0; BREAK; LANE; ELSE; LANE; BREAK; LANE; END; LANE; AGAIN", LaneDesk.DONE, "9 0 15 12 0");
        ends("CONST 1; LOOP; IF 0; BREAK; LANE; END; IF 0; LANE; ELSE; END; LANE; AGAIN", LaneDesk.DONE, "6 0 15 12 0");
        // BREAK two deep: both ENDs are steps.
        ends("CONST 1; LOOP; IF 0; IF 0; BREAK; END; LANE; END; LANE; AGAIN", LaneDesk.DONE, "8 0 15 10 0");
        // Lanes that go out one after the other: four rounds, three of them begun again.
        ends("LANE; CONST 1; LOOP; GET 0; ADD 3 1; PUT 0 4; SAME 3 0; IF 6; BREAK; END; AGAIN", LaneDesk.DONE,
                "35 0 15 11 3");
    }

    /** Leaves all but a few of the 400 steps to lines behind a loop, so that the run ends among them. */
    private static void ends(int room, String behind, String want) {
        String counting = "CONST 48; CONST 1; LOOP; GET 0; ADD 3 1; PUT 0 4; LESS 4 0; IF 6; ELSE; BREAK; END; AGAIN";
        StringBuilder program = new StringBuilder(counting);
        for (int used = 387; used < 400 - room; used++) {
            program.append("; DROP");
        }
        int first = 12 + 13 - room;
        String moved = behind;
        for (int k = 9; k >= 0; k--) {
            moved = moved.replace("#" + k, Integer.toString(first + k));
        }
        LaneDesk desk = Bench.desk(program + "; " + moved);
        Bench.due("check of " + moved, desk.check(), 0);
        Bench.due("run into " + moved, desk.run(false), LaneDesk.LONG);
        String got = desk.state(0) + " " + desk.state(2) + " " + (desk.state(3) - first) + " " + desk.state(4);
        Bench.dueRow("where it ended in " + moved, got, "400 " + want);
    }

    private static void whereItEnds() {
        String parts = "LANE; IF #0; CONST 1; ELSE; CONST 2; END; LANE";
        ends(1, parts, "15 1 47");
        ends(2, parts, "14 2 47");
        ends(3, parts, "14 3 47");
        ends(4, parts, "1 4 47");
        ends(5, parts, "1 5 47");
        ends(6, parts, "15 6 47");
        // A part that is left out has none ON at its end.
        ends(2, "CONST 0; IF #0; LANE; END; LANE", "0 3 47");
        ends(4, "CONST 1; IF #0; LANE; ELSE; LANE; END; LANE", "0 5 47");
        ends(2, "CONST 0; IF #0; LANE; ELSE; LANE; END; LANE", "15 4 47");
        // So has one that all went out of by BREAK.
        String out = "LANE; LOOP; IF #0; BREAK; LANE; ELSE; BREAK; END; LANE; AGAIN; LANE";
        ends(4, out, "0 5 47");
        ends(5, out, "1 6 47");
        ends(6, out, "0 7 47");
        ends(7, out, "0 9 47");
        ends(8, out, "15 10 47");
        // Some stay in the LOOP.
        String some = "LANE; LOOP; IF #0; BREAK; END; LANE; AGAIN; LANE";
        ends(4, some, "0 4 47");
        ends(5, some, "1 5 47");
        ends(6, some, "1 6 47");
        ends(7, some, "1 2 48");
    }
}
