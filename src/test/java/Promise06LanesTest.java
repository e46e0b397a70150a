/** Promise 6: what is varied, what is not together, and how deep a line stands. */
public final class Promise06LanesTest {
    private static void rows(String program, String varied, String apart, String deep) {
        LaneDesk desk = Bench.desk(program);
        int lines = varied.split(" ").length;
        Bench.dueRow("varied in " + program, Bench.lanes(desk, lines, 0), varied);
        Bench.dueRow("not together in " + program, Bench.lanes(desk, lines, 1), apart);
        Bench.dueRow("depth in " + program, Bench.lanes(desk, lines, 2), deep);
        Bench.due("a line behind the last one in " + program, desk.lanes(lines, 1), LaneDesk.BAD);
    }

    public static void main(String[] args) {
        rows("CONST 1; INPUT 0; INPUT 1; INPUT 2; INPUT 3; LANE; TAKE 0 0; GET 0; ANY 5; FIRST 5",
                "0 0 0 1 1 1 1 0 0 0", "0 0 0 0 0 0 0 0 0 0", "0 0 0 0 0 0 0 0 0 0");
        rows("CONST 1; ADD 0 0; NOT 1; PICK 0 1 2; ACROSS 0; DOWN 3; LESS 0 1; SAME 0 1; BOTH 0 1; SUB 0 1; MUL 0 1",
                "0 0 0 0 0 0 0 0 0 0 0", "0 0 0 0 0 0 0 0 0 0 0", "0 0 0 0 0 0 0 0 0 0 0");
        rows("CONST 1; LANE; ADD 0 1; SUB 1 0; MUL 0 1; LESS 1 0; SAME 0 1; BOTH 1 0; NOT 1; ACROSS 1; DOWN 1",
                "0 1 1 1 1 1 1 1 1 1 1", "0 0 0 0 0 0 0 0 0 0 0", "0 0 0 0 0 0 0 0 0 0 0");
        rows("CONST 1; LANE; NOT 0; NOT 1; NOT 0; PICK 0 0 0; NOT 1", "0 1 0 1 0 0 1", "0 0 0 0 0 0 0", "0 0 0 0 0 0 0");
        rows("CONST 1; LANE; PICK 1 0 0; PICK 0 1 0; PICK 0 0 1; ANY 2; FIRST 2; NOT 6; OUT 0 7",
                "0 1 1 1 1 0 0 0 -1", "0 0 0 0 0 0 0 0 0", "0 0 0 0 0 0 0 0 0");
        ifs();
        loops();
        variables();
        wrongOnes();
        Bench.end();
    }

    private static void ifs() {
        rows("LANE; IF 0; CONST 1; ELSE; CONST 2; END; CONST 3",
                "1 -1 0 -1 0 -1 0", "0 0 1 0 1 0 0", "0 0 1 0 1 0 0");
        rows("CONST 1; IF 0; LANE; ELSE; IF 0; CONST 2; END; END",
                "0 -1 1 -1 -1 0 -1 -1", "0 0 0 0 0 0 0 0", "0 0 1 0 1 2 1 0");
        // What stands in such blocks is not together either.
        rows("CONST 1; LANE; IF 1; IF 0; DROP; END; LOOP; BREAK; AGAIN; END",
                "0 1 -1 -1 -1 -1 -1 -1 -1 -1", "0 0 0 1 1 1 1 1 1 0", "0 0 0 1 2 1 1 2 1 0");
    }

    private static void loops() {
        rows("LANE; LOOP; CONST 1; IF 0; BREAK; END; AGAIN; CONST 1",
                "1 -1 0 -1 -1 -1 -1 0", "0 0 1 1 1 1 0 0", "0 0 1 1 2 1 0 0");
        rows("CONST 1; LOOP; LANE; IF 0; BREAK; ELSE; END; AGAIN",
                "0 -1 1 -1 -1 -1 -1 -1", "0 0 0 0 0 0 0 0", "0 0 1 1 2 1 1 0");
        // Both parts of an IF count.
        rows("LANE; LOOP; IF 0; ELSE; BREAK; END; AGAIN",
                "1 -1 -1 -1 -1 -1 -1", "0 0 1 1 1 1 0", "0 0 1 1 2 1 0");
        // Any IF between the LOOP and its BREAK.
        rows("LANE; CONST 1; LOOP; IF 0; IF 1; BREAK; END; END; AGAIN",
                "1 0 -1 -1 -1 -1 -1 -1 -1", "0 0 0 1 1 1 1 1 0", "0 0 0 1 2 3 2 1 0");
        rows("LANE; CONST 1; LOOP; IF 1; IF 0; BREAK; END; END; AGAIN",
                "1 0 -1 -1 -1 -1 -1 -1 -1", "0 0 0 1 1 1 1 1 0", "0 0 0 1 2 3 2 1 0");
        // A BREAK of an inner LOOP leaves the outer one together.
        rows("LANE; LOOP; LOOP; IF 0; BREAK; END; AGAIN; BREAK; AGAIN",
                "1 -1 -1 -1 -1 -1 -1 -1 -1", "0 0 0 1 1 1 0 0 0", "0 0 1 2 3 2 1 1 0");
        rows("LANE; LOOP; IF 0; LOOP; BREAK; AGAIN; END; BREAK; AGAIN",
                "1 -1 -1 -1 -1 -1 -1 -1 -1", "0 0 0 1 1 1 0 0 0", "0 0 1 2 3 2 1 1 0");
        // A LOOP inside one that is not together.
        rows("LANE; LOOP; LOOP; BREAK; AGAIN; IF 0; BREAK; END; AGAIN",
                "1 -1 -1 -1 -1 -1 -1 -1 -1", "0 0 1 1 1 1 1 1 0", "0 0 1 2 1 1 2 1 0");
    }

    private static void variables() {
        // A later PUT counts for an earlier GET, and through an IF for a PUT of another variable.
        rows("GET 0; LANE; PUT 0 1; GET 1", "1 1 -1 0", "0 0 0 0", "0 0 0 0");
        rows("GET 1; CONST 1; GET 0; IF 2; PUT 1 1; END; LANE; PUT 0 6",
                "1 0 1 -1 -1 -1 1 -1", "0 0 0 0 1 0 0 0", "0 0 0 0 1 0 0 0");
        // FIRST makes it the same again, but not where some lanes are elsewhere.
        rows("LANE; FIRST 0; PUT 0 1; GET 0", "1 0 -1 0", "0 0 0 0", "0 0 0 0");
        // A LOOP that is found to be not together makes an earlier GET varied.
        rows("GET 0; CONST 1; LANE; LOOP; PUT 0 1; IF 2; BREAK; END; AGAIN",
                "1 0 1 -1 -1 -1 -1 -1 -1", "0 0 0 0 1 1 1 1 0", "0 0 0 0 1 1 2 1 0");
        rows("LANE; IF 0; FIRST 0; PUT 0 2; END; GET 0", "1 -1 0 -1 -1 1", "0 0 1 1 0 0", "0 0 1 1 0 0");
        // As little as possible: what only feeds itself is not varied.
        rows("LOOP; GET 0; IF 1; BREAK; END; NOT 1; PUT 0 5; AGAIN",
                "-1 0 -1 -1 -1 0 -1 -1", "0 0 0 0 0 0 0 0", "0 1 1 2 1 1 1 0");
    }

    private static void wrongOnes() {
        // Nothing is left of what was found of lines that were wiped.
        LaneDesk anew = Bench.desk("LANE; IF 0; PUT 0 0; PUT 1 0; PUT 2 0; PUT 3 0; LANE; END");
        Bench.due("varied before", anew.lanes(0, 0), 1);
        anew.wipe();
        Bench.load(anew, "CONST 1; IF 0; GET 0; GET 1; GET 2; GET 3; CONST 1; END");
        Bench.dueRow("varied anew", Bench.lanes(anew, 8, 0), "0 -1 0 0 0 0 0 -1");
        Bench.dueRow("not together anew", Bench.lanes(anew, 8, 1), "0 0 0 0 0 0 0 0");
        LaneDesk desk = Bench.desk("LANE; IF 0; ACROSS 0; END");
        Bench.due("4 is wrong", desk.check(), 4);
        Bench.due("but varied is told", desk.lanes(2, 0), 1);
        Bench.due("and not together", desk.lanes(2, 1), 1);
        Bench.due("and the depth", desk.lanes(2, 2), 1);
        for (int what = -2; what <= 5; what++) {
            Bench.due("line -1, what " + what, desk.lanes(-1, what), LaneDesk.BAD);
            Bench.due("line 4, what " + what, desk.lanes(4, what), LaneDesk.BAD);
            Bench.due("line 48, what " + what, desk.lanes(48, what), LaneDesk.BAD);
            Bench.due("the least line, what " + what, desk.lanes(Integer.MIN_VALUE, what), LaneDesk.BAD);
            if (what < 0 || what > 2) {
                Bench.due("what " + what, desk.lanes(0, what), LaneDesk.BAD);
            }
        }
        for (String program : new String[] {"LANE; END", "LANE; NOT 7", "LANE; IF 0; LANE; END; NOT 2", "LANE; LOOP"}) {
            LaneDesk bad = Bench.desk(program);
            for (int what = 0; what < 3; what++) {
                Bench.due("line 0 of " + program + ", what " + what, bad.lanes(0, what), LaneDesk.BAD);
            }
        }
    }
}
