/** The edges of promises 1 to 5: a new object, add, wipe, check and place. */
public final class EdgePromises01To05Test {
    private static final int[] NUMBERED = {1, 11, 16, 17, 18};
    private static final int[] OUTSIDE = {-1, 4, 5, -4, 256, Integer.MIN_VALUE, Integer.MAX_VALUE};

    public static void main(String[] args) {
        newObject();
        newInputs();
        twoObjects();
        addNumbers();
        addOps();
        addFirstNumbers();
        addFull();
        otherNumbers();
        wipe();
        wipeOfAllThatWasFound();
        check();
        place();
        askedAgain();
        Bench.end();
    }

    private static void newObject() {
        Bench.sentence("No LINES; all INPUTS 0; nothing was run.");
        LaneDesk desk = new LaneDesk();
        Bench.dueRow("of no run", Bench.told(desk), Bench.told(new LaneDesk()));
        Bench.dueRow("state", Bench.states(desk), "0 0 0 0 0");
        for (int k = 0; k < 4; k++) {
            Bench.dueRow("output " + k, Bench.outs(desk, k), "0 0 0 0");
            Bench.dueRow("variable " + k, Bench.keeps(desk, k), "0 0 0 0");
            Bench.dueRow("cell " + k, Bench.keeps(desk, k + 4), "0 0 0 0");
            Bench.due("variable " + k + " of no lines", desk.varied(k), 0);
        }
        for (int i : new int[] {-1, 0, 1, 47, 48}) {
            for (int what = 0; what < 3; what++) {
                Bench.due("lanes of line " + i, desk.lanes(i, what), LaneDesk.BAD);
                Bench.due("shorter of line " + i, desk.shorter(i, what), LaneDesk.BAD);
            }
        }
        Bench.due("check", desk.check(), 0);
        Bench.due("place", desk.place(), -1);
        Bench.due("wipe", desk.wipe(), 0);
        Bench.due("run", desk.run(false), LaneDesk.DONE);
        Bench.dueRow("state behind it", Bench.states(desk), "0 0 15 0 0");
        Bench.due("the first line", desk.add(2, 0, 0, 0), 0);
    }

    private static void newInputs() {
        Bench.sentence("No LINES; all INPUTS 0; nothing was run.");
        LaneDesk desk = Bench.desk("INPUT 0; OUT 0 0; INPUT 1; OUT 1 2; INPUT 2; OUT 2 4; INPUT 3; OUT 3 6; CONST 1; PUT 0 8");
        Bench.due("run", desk.run(false), LaneDesk.DONE);
        for (int k = 0; k < 4; k++) {
            Bench.dueRow("input " + k, Bench.outs(desk, k), "0 0 0 0");
        }
        Bench.dueRow("it was run", Bench.keeps(desk, 0), "1 1 1 1");
    }

    private static void twoObjects() {
        Bench.sentence("No LINES; all INPUTS 0; nothing was run.");
        LaneDesk used = Bench.desk("INPUT 2; OUT 0 0; PUT 0 0; TAKE 0 0; DROP");
        Bench.inputs(used, 2, "5 6 7 8");
        used.run(false);
        LaneDesk desk = new LaneDesk();
        Bench.dueRow("state of another object", Bench.states(desk), "0 0 0 0 0");
        Bench.dueRow("outputs of another object", Bench.outs(desk, 0), "0 0 0 0");
        Bench.due("lines of another object", desk.wipe(), 0);
        Bench.load(desk, "INPUT 2; OUT 0 0");
        desk.run(false);
        Bench.dueRow("inputs of another object", Bench.outs(desk, 0), "0 0 0 0");
        Bench.dueRow("the first one is as it was", Bench.outs(used, 0), "5 6 7 8");
        Bench.due("and its lines", used.wipe(), 5);
    }

    private static void addNumbers() {
        Bench.sentence("A further LINE: its number.");
        LaneDesk desk = new LaneDesk();
        for (int i = 0; i < 48; i++) {
            Bench.due("line " + i, desk.add(i % 26, 0, 0, 0), i);
        }
        desk = new LaneDesk();
        Bench.due("a wrong one has no number", desk.add(26, 0, 0, 0), LaneDesk.BAD);
        Bench.due("the first good one has 0", desk.add(25, 0, 0, 0), 0);
        Bench.due("a wrong one between", desk.add(1, 4, 0, 0), LaneDesk.BAD);
        Bench.due("the second good one has 1", desk.add(25, 0, 0, 0), 1);
        // A line that check() finds wrong is a line.
        Bench.due("END without an IF", desk.add(21, 0, 0, 0), 2);
        Bench.due("and one behind it", desk.add(0, 0, 0, 0), 3);
    }

    private static void addOps() {
        Bench.sentence("BAD if op is not 0..25");
        LaneDesk desk = new LaneDesk();
        for (int op : new int[] {-1, 26, 27, -26, 256, 257, Integer.MIN_VALUE, Integer.MAX_VALUE}) {
            Bench.due("op " + op, desk.add(op, 0, 0, 0), LaneDesk.BAD);
        }
        Bench.due("no line came of it", desk.wipe(), 0);
        for (int op = 0; op <= 25; op++) {
            Bench.due("op " + op, desk.add(op, 0, 0, 0), op);
        }
    }

    private static void addFirstNumbers() {
        Bench.sentence("or an a of INPUT, GET, TAKE, PUT, OUT not 0..3");
        LaneDesk desk = new LaneDesk();
        for (int op : NUMBERED) {
            for (int a : OUTSIDE) {
                Bench.due("op " + op + " with a " + a, desk.add(op, a, 0, 0), LaneDesk.BAD);
            }
        }
        Bench.due("no line came of it", desk.wipe(), 0);
        int lines = 0;
        for (int op : NUMBERED) {
            for (int a = 0; a < 4; a++) {
                Bench.due("op " + op + " with a " + a, desk.add(op, a, 0, 0), lines++);
            }
        }
        // All others take any a.
        for (int op = 0; op <= 25; op++) {
            boolean other = true;
            for (int numbered : NUMBERED) {
                other &= op != numbered;
            }
            if (other) {
                Bench.due("op " + op + " with any a", desk.add(op, op % 2 == 0 ? 4 : -1, 0, 0), lines++);
            }
        }
    }

    private static void addFull() {
        Bench.sentence("FULL with 48.");
        LaneDesk desk = new LaneDesk();
        for (int i = 0; i < 47; i++) {
            desk.add(0, i, 0, 0);
        }
        Bench.due("with 47 there is room", desk.add(0, 47, 0, 0), 47);
        for (int k = 0; k < 3; k++) {
            Bench.due("with 48 there is none", desk.add(0, 99, 0, 0), LaneDesk.FULL);
        }
        Bench.due("the last one is as it was", desk.shorter(47, 2), 47);
        Bench.due("48 lines", desk.wipe(), 48);
        Bench.due("there is room again", desk.add(0, 5, 0, 0), 0);
        for (int i = 1; i < 48; i++) {
            Bench.due("room for " + i, desk.add(2, 0, 0, 0), i);
        }
        Bench.due("and full again", desk.add(2, 0, 0, 0), LaneDesk.FULL);
    }

    private static void otherNumbers() {
        Bench.sentence("(Other numbers are looked at in check().)");
        LaneDesk desk = Bench.desk("LANE");
        for (int far : new int[] {-1, 48, Integer.MIN_VALUE, Integer.MAX_VALUE}) {
            Bench.due("an operand " + far, desk.add(3, far, far, far), 1);
            Bench.due("check of it", desk.check(), 2);
            Bench.due("place of it", desk.place(), 1);
            Bench.due("wipe", desk.wipe(), 2);
            Bench.due("LANE", desk.add(2, far, far, far), 0);
            Bench.due("no operands of LANE", desk.check(), 0);
        }
        Bench.due("b of OUT", desk.add(18, 3, -9, 0), 1);
        Bench.due("check of it", desk.check(), 2);
    }

    private static void wipe() {
        Bench.sentence("No LINES are left: how many there were.");
        LaneDesk desk = new LaneDesk();
        Bench.due("none", desk.wipe(), 0);
        desk.add(2, 0, 0, 0);
        Bench.due("one", desk.wipe(), 1);
        Bench.due("none again", desk.wipe(), 0);
        for (int i = 0; i < 50; i++) {
            desk.add(2, 0, 0, 0);
        }
        Bench.due("no more than 48", desk.wipe(), 48);
        Bench.due("line 0 is gone", desk.lanes(0, 2), LaneDesk.BAD);
        Bench.due("line 47 is gone", desk.shorter(47, 1), LaneDesk.BAD);
        Bench.due("nothing is wrong", desk.check(), 0);
        Bench.due("a run has no step", desk.run(false), LaneDesk.DONE);
        Bench.dueRow("state", Bench.states(desk), "0 0 15 0 0");
        // What was open before is not open now.
        Bench.load(desk, "LANE; LOOP; IF 0; ELSE");
        Bench.due("open", desk.check(), 1);
        Bench.due("four lines", desk.wipe(), 4);
        Bench.due("nothing is open", desk.check(), 0);
        Bench.load(desk, "LANE; BREAK");
        Bench.due("the LOOP is gone", desk.check(), 1);
        Bench.due("at the BREAK", desk.place(), 1);
    }

    /** What is told of the lines behind a wipe is what a new object tells of them. */
    private static void wipeOfAllThatWasFound() {
        Bench.sentence("No LINES are left: how many there were.");
        String before = "LANE; CONST 9; IF 0; GET 0; PUT 0 1; PUT 1 0; PUT 2 0; PUT 3 0; ELSE; GET 1; OUT 0 9; GET 2; OUT 0 11; GET 3; OUT 0 13;"
                + " END; CONST 9; LOOP; IF 0; BREAK; END; AGAIN; GET 0; OUT 1 22";
        String[] behind = {"CONST 1; GET 0; IF 1; GET 1; PUT 0 0; LANE; GET 2; GET 3; ELSE; GET 0; PUT 1 9; END; LOOP; NOT 0; BREAK; AGAIN; GET 3",
            "GET 0; GET 1; GET 2; GET 3; PUT 0 0; PUT 1 1; PUT 2 2; PUT 3 3; INPUT 0; INPUT 1; NOT 8; NOT 9; ADD 8 9; ACROSS 8; DOWN 9; PUT 0 8",
            "LANE; LANE; NOT 0; NOT 1; PICK 0 2 3; LESS 0 2; LOOP; IF 0; ANY 0; END; BREAK; AGAIN; FIRST 0; PUT 3 12; GET 3; PUT 2 14"};
        for (String program : behind) {
            int lines = program.split(";").length;
            LaneDesk desk = Bench.desk(before);
            Bench.due("check before", desk.check(), 0);
            Bench.due("the first run", desk.run(false), LaneDesk.LONG);
            Bench.due("wipe", desk.wipe(), 24);
            Bench.load(desk, program);
            LaneDesk fresh = Bench.desk(program);
            Bench.dueRow("of " + program, Bench.looked(desk, lines), Bench.looked(fresh, lines));
            Bench.due("run of it", desk.run(true), fresh.run(true));
            Bench.dueRow("told of it", Bench.told(desk), Bench.told(fresh));
        }
    }

    private static void check() {
        Bench.sentence("What is WRONG (1..4); 0 if nothing is.");
        Bench.due("nothing", new LaneDesk().check(), 0);
        Bench.due("of 1", Bench.desk("AGAIN").check(), 1);
        Bench.due("of 2", Bench.desk("IF 0").check(), 2);
        Bench.due("of 3", Bench.desk("LOOP; LANE; BREAK; AGAIN; IF 1").check(), 3);
        Bench.due("of 4", Bench.desk("LANE; IF 0; DOWN 0; END").check(), 4);
        Bench.due("nothing in 48 lines", Bench.desk("LANE" + Bench.times(47, "NOT 0")).check(), 0);
        Bench.due("the last of 48 lines", Bench.desk("LANE" + Bench.times(46, "NOT 0") + "; NOT 47").check(), 2);
    }

    private static void place() {
        Bench.sentence("The LINE that is WRONG (how many there are, if something is open); -1 if none is.");
        Bench.due("none", new LaneDesk().place(), -1);
        Bench.due("line 0", Bench.desk("END; LANE").place(), 0);
        Bench.due("line 47", Bench.desk("LANE" + Bench.times(46, "NOT 0") + "; NOT 47").place(), 47);
        Bench.due("one is open", Bench.desk("LOOP").place(), 1);
        Bench.due("one of 48 is open", Bench.desk("LANE" + Bench.times(46, "NOT 0") + "; IF 0").place(), 48);
        Bench.due("of 4", Bench.desk("LANE; NOT 0; IF 0; LANE; DOWN 0; END").place(), 4);
    }

    private static void askedAgain() {
        Bench.sentence("What is WRONG (1..4); 0 if nothing is.");
        // The answer is that of the lines there are now, however often it was asked before.
        LaneDesk desk = new LaneDesk();
        String[] lines = {"LANE", "IF 0", "ACROSS 0", "END", "NOT 2", "LANE"};
        int[] checks = {0, 1, 1, 4, 3, 3};
        int[] places = {-1, 2, 3, 2, 4, 4};
        for (int k = 0; k < lines.length; k++) {
            Bench.load(desk, lines[k]);
            for (int twice = 0; twice < 2; twice++) {
                Bench.due("check behind " + lines[k], desk.check(), checks[k]);
                Bench.due("place behind " + lines[k], desk.place(), places[k]);
            }
        }
        desk.wipe();
        Bench.due("check behind a wipe", desk.check(), 0);
        Bench.due("place behind a wipe", desk.place(), -1);
    }
}
