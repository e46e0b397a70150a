/** The edges of promises 6 to 8: lanes, varied and shorter, and what they refuse. */
public final class EdgePromises06To08Test {
    private static final int[] NO_WHAT = {-1, 3, 4, Integer.MIN_VALUE, Integer.MAX_VALUE};
    private static final String[] WRONG_1_TO_3 = {"LANE; END", "LANE; NOT 1", "LANE; IF 0; LANE; END; NOT 2", "LANE; LOOP"};

    public static void main(String[] args) {
        lanesTogether();
        lanesDepths();
        lanesOfNoLine();
        lanesOfWrong();
        lanesOfNoValue();
        lanesOfOthers();
        varied();
        shorterKinds();
        shorterSame();
        shorterNumbers();
        shorterBad();
        Bench.end();
    }

    private static void lanesTogether() {
        Bench.sentence("1: 1 if it is not TOGETHER, else 0");
        LaneDesk desk = Bench.desk("LANE; CONST 1; IF 1; DROP; ELSE; IF 0; DROP; PUT 0 0; LANE; ELSE; OUT 0 0; END; END; LOOP; BREAK; AGAIN");
        Bench.dueRow("not together", Bench.lanes(desk, 16, 1), "0 0 0 0 0 0 1 1 1 0 1 0 0 0 0 0");
        Bench.sentence("Of LINE i what 0: 1 if its VALUE is VARIED, else 0");
        Bench.dueRow("varied", Bench.lanes(desk, 16, 0), "1 0 -1 -1 -1 -1 -1 -1 1 -1 -1 -1 -1 -1 -1 -1");
    }

    private static void lanesDepths() {
        Bench.sentence("2: how many BLOCKS it stands in, less 1.");
        LaneDesk desk = Bench.desk("LANE; LOOP; IF 0; LOOP; IF 0; BREAK; ELSE; LANE; END; BREAK; AGAIN; ELSE; LANE; END; BREAK; AGAIN; DROP");
        Bench.dueRow("depths", Bench.lanes(desk, 17, 2), "0 0 1 2 3 4 3 4 3 3 2 1 2 1 1 0 0");
    }

    private static void lanesOfNoLine() {
        Bench.sentence("BAD if there is no such LINE, something is WRONG of 1 to 3, it gives no VALUE (what 0), or for others.");
        LaneDesk desk = Bench.desk("LANE; LANE");
        for (int what = 0; what < 3; what++) {
            for (int i : new int[] {-1, 2, 3, 47, 48, 49, Integer.MIN_VALUE, Integer.MAX_VALUE}) {
                Bench.due("lanes(" + i + ", " + what + ")", desk.lanes(i, what), LaneDesk.BAD);
            }
            Bench.due("the first line, what " + what, desk.lanes(0, what), what == 0 ? 1 : 0);
            Bench.due("the last line, what " + what, desk.lanes(1, what), what == 0 ? 1 : 0);
        }
        // A line that was there before a wipe is none.
        desk.wipe();
        Bench.load(desk, "LANE");
        Bench.due("line 0", desk.lanes(0, 1), 0);
        Bench.due("line 1 is gone", desk.lanes(1, 1), LaneDesk.BAD);
    }

    private static void lanesOfWrong() {
        Bench.sentence("BAD if there is no such LINE, something is WRONG of 1 to 3, it gives no VALUE (what 0), or for others.");
        for (String program : WRONG_1_TO_3) {
            LaneDesk desk = Bench.desk(program);
            for (int what = 0; what < 3; what++) {
                Bench.due("line 0, what " + what + " of " + program, desk.lanes(0, what), LaneDesk.BAD);
            }
        }
        // Not of 4.
        LaneDesk desk = Bench.desk("LANE; IF 0; DOWN 0; END");
        Bench.dueRow("varied, wrong of 4", Bench.lanes(desk, 4, 0), "1 -1 1 -1");
        Bench.dueRow("not together, wrong of 4", Bench.lanes(desk, 4, 1), "0 0 1 0");
        Bench.dueRow("depth, wrong of 4", Bench.lanes(desk, 4, 2), "0 0 1 0");
        // It is told again when the wrong one is mended by a further line.
        desk = Bench.desk("LANE; LOOP; BREAK");
        Bench.due("open", desk.lanes(0, 0), LaneDesk.BAD);
        Bench.load(desk, "AGAIN");
        Bench.due("closed", desk.lanes(0, 0), 1);
    }

    private static void lanesOfNoValue() {
        Bench.sentence("it gives no VALUE (what 0)");
        LaneDesk desk = Bench.desk("LANE; PUT 0 0; OUT 0 0; IF 0; ELSE; END; LOOP; BREAK; AGAIN; DROP");
        Bench.dueRow("what 0", Bench.lanes(desk, 10, 0), "1 -1 -1 -1 -1 -1 -1 -1 -1 -1");
        Bench.dueRow("what 1", Bench.lanes(desk, 10, 1), "0 0 0 0 0 0 0 0 0 0");
        Bench.dueRow("what 2", Bench.lanes(desk, 10, 2), "0 0 0 0 0 0 0 1 0 0");
        desk = Bench.desk("CONST 1; INPUT 0; LANE; ADD 0 0; SUB 0 0; MUL 0 0; LESS 0 0; SAME 0 0; BOTH 0 0; NOT 0; PICK 0 0 0;"
                + " GET 0; ACROSS 0; DOWN 0; ANY 0; FIRST 0; TAKE 0 0");
        Bench.dueRow("what 0 of all that give one", Bench.lanes(desk, 17, 0), "0 0 1 0 0 0 0 0 0 0 0 0 0 0 0 0 1");
    }

    private static void lanesOfOthers() {
        Bench.sentence("BAD if there is no such LINE, something is WRONG of 1 to 3, it gives no VALUE (what 0), or for others.");
        LaneDesk desk = Bench.desk("LANE; DROP");
        for (int what : NO_WHAT) {
            Bench.due("lanes(0, " + what + ")", desk.lanes(0, what), LaneDesk.BAD);
            Bench.due("lanes(1, " + what + ")", desk.lanes(1, what), LaneDesk.BAD);
            Bench.due("lanes(2, " + what + ")", desk.lanes(2, what), LaneDesk.BAD);
        }
    }

    private static void varied() {
        Bench.sentence("Whether a VARIABLE is VARIED: 1, or 0; BAD likewise, or if there is none.");
        LaneDesk desk = Bench.desk("LANE; PUT 0 0; PUT 3 0");
        for (int variable : new int[] {-1, 4, 5, Integer.MIN_VALUE, Integer.MAX_VALUE}) {
            Bench.due("variable " + variable, desk.varied(variable), LaneDesk.BAD);
        }
        Bench.due("the first variable", desk.varied(0), 1);
        Bench.due("one that is not put", desk.varied(1), 0);
        Bench.due("another one", desk.varied(2), 0);
        Bench.due("the last variable", desk.varied(3), 1);
        Bench.due("of no lines", new LaneDesk().varied(3), 0);
        Bench.due("none, of no lines", new LaneDesk().varied(4), LaneDesk.BAD);
        for (String program : WRONG_1_TO_3) {
            LaneDesk bad = Bench.desk(program);
            for (int variable = -1; variable <= 4; variable++) {
                Bench.due("variable " + variable + " of " + program, bad.varied(variable), LaneDesk.BAD);
            }
        }
        desk = Bench.desk("LANE; IF 0; DOWN 0; PUT 1 0; END");
        Bench.due("wrong of 4 is told of", desk.varied(1), 1);
        Bench.due("and of another one", desk.varied(0), 0);
        // A further line can change it, a wipe does.
        desk = Bench.desk("CONST 1; PUT 2 0");
        Bench.due("not yet", desk.varied(2), 0);
        Bench.load(desk, "LANE; PUT 2 2");
        Bench.due("now", desk.varied(2), 1);
        desk.wipe();
        Bench.due("no more", desk.varied(2), 0);
    }

    private static void shorterKinds() {
        Bench.sentence("0 not NEEDED, 1 NEEDED, 2 the SAME as another one, 3 a CONST (also one that is the SAME as another one; 2 and 3 whether NEEDED or not)");
        LaneDesk desk = Bench.desk("LANE; INPUT 2; LANE; CONST 4; CONST 4; SUB 1 1; LANE; OUT 0 2; OUT 1 4");
        Bench.dueRow("kinds", Bench.shorter(desk, 9, 0), "1 0 2 3 3 3 2 1 1");
        desk = Bench.desk("LANE; LANE; CONST 4; CONST 4");
        Bench.dueRow("kinds where none is NEEDED", Bench.shorter(desk, 4, 0), "0 2 3 3");
        // A PICK of CONSTS is the SAME as one of them and so a CONST.
        desk = Bench.desk("CONST 1; CONST 2; PICK 0 1 0; OUT 0 2");
        Bench.dueRow("kinds with a PICK", Bench.shorter(desk, 4, 0), "3 3 3 1");
        Bench.dueRow("same with a PICK", Bench.shorter(desk, 4, 1), "0 1 1 3");
    }

    private static void shorterSame() {
        Bench.sentence("1: the LINE that it is the SAME as (itself, if none)");
        LaneDesk desk = Bench.desk("LANE; IF 0; LANE; ELSE; NOT 0; END; LOOP; BREAK; AGAIN; OUT 0 0; PUT 0 0; DROP; LANE; GET 0");
        Bench.dueRow("same", Bench.shorter(desk, 14, 1), "0 1 0 3 4 5 6 7 8 9 10 11 0 13");
    }

    private static void shorterNumbers() {
        Bench.sentence("2: the int of a CONST, else 0.");
        LaneDesk desk = Bench.desk("CONST -2147483648; CONST 2147483647; CONST 2147483647; ADD 0 0; LANE; LANE; OUT 3 0; SAME 4 5; PUT 2 0");
        Bench.dueRow("numbers", Bench.shorter(desk, 9, 2), "-2147483648 2147483647 2147483647 0 0 0 0 1 0");
        // Not the a of a line that is no CONST.
        desk = Bench.desk("INPUT 3; GET 2; LANE 5; NOT 2");
        Bench.dueRow("numbers of others", Bench.shorter(desk, 4, 2), "0 0 0 0");
    }

    private static void shorterBad() {
        Bench.sentence("BAD if there is no such LINE, something is WRONG, or for others.");
        LaneDesk desk = Bench.desk("CONST 5; OUT 0 0");
        for (int what = 0; what < 3; what++) {
            for (int i : new int[] {-1, 2, 47, 48, Integer.MIN_VALUE, Integer.MAX_VALUE}) {
                Bench.due("shorter(" + i + ", " + what + ")", desk.shorter(i, what), LaneDesk.BAD);
            }
        }
        for (int what : NO_WHAT) {
            Bench.due("shorter(0, " + what + ")", desk.shorter(0, what), LaneDesk.BAD);
            Bench.due("shorter(1, " + what + ")", desk.shorter(1, what), LaneDesk.BAD);
        }
        for (String program : WRONG_1_TO_3) {
            LaneDesk bad = Bench.desk(program);
            Bench.dueRow("line 0 of " + program, bad.shorter(0, 0) + " " + bad.shorter(0, 1) + " " + bad.shorter(0, 2), "-1 -1 -1");
        }
        // Of 4, too.
        LaneDesk four = Bench.desk("LANE; IF 0; DOWN 0; END");
        Bench.dueRow("kinds, wrong of 4", Bench.shorter(four, 4, 0), "-1 -1 -1 -1");
        Bench.dueRow("same, wrong of 4", Bench.shorter(four, 4, 1), "-1 -1 -1 -1");
        Bench.dueRow("numbers, wrong of 4", Bench.shorter(four, 4, 2), "-1 -1 -1 -1");
        // Of a line that gives no value it is not BAD.
        Bench.dueRow("of OUT", desk.shorter(1, 0) + " " + desk.shorter(1, 1) + " " + desk.shorter(1, 2), "1 1 0");
    }
}
