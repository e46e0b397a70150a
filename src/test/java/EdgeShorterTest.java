/** The edges in 'Terms', SHORTER: what just is, and what just is not, a CONST, the SAME as another line, or NEEDED. */
public final class EdgeShorterTest {
    private static final String NONE = "0 0 0 0";

    public static void main(String[] args) {
        fromTheFirstLine();
        constsAlone();
        pickOfAConst();
        theSameAsX();
        timesNought();
        withItself();
        pickOfTheSame();
        earlierLines();
        turnedRound();
        otherNumbers();
        blocksThatAreOpen();
        madeConsts();
        neededAnyway();
        neededPuts();
        neededOperands();
        whatAConstWasMadeOf();
        onlyThose();
        whatTheyStandFor();
        passedOver();
        Bench.end();
    }

    private static void rows(String program, String kind, String same, String number) {
        LaneDesk desk = Bench.desk(program);
        int lines = kind.split(" ").length;
        Bench.dueRow("kinds in " + program, Bench.shorter(desk, lines, 0), kind);
        Bench.dueRow("same in " + program, Bench.shorter(desk, lines, 1), same);
        Bench.dueRow("numbers in " + program, Bench.shorter(desk, lines, 2), number);
    }

    /** Of the last line: its kind, the line it is the SAME as, and its number. */
    private static void last(String program, int kind, int same, int number) {
        LaneDesk desk = Bench.desk(program);
        int i = program.split(";").length - 1;
        Bench.due("kind of the last of " + program, desk.shorter(i, 0), kind);
        Bench.due("same of the last of " + program, desk.shorter(i, 1), same);
        Bench.due("number of the last of " + program, desk.shorter(i, 2), number);
    }

    private static void fromTheFirstLine() {
        Bench.sentence("each that gives a VALUE is looked at with operands that stand for their SAME (what they are the SAME as, if so)");
        // Each line is made out with the help of the one before.
        rows("LANE; CONST 0; ADD 0 1; SUB 2 0; ADD 2 3; NOT 3; MUL 4 5; SUB 6 0; LESS 7 5; OUT 0 8",
                "0 3 2 3 2 3 2 3 3 1", "0 1 0 1 0 5 0 1 5 9", "0 0 0 0 0 1 0 0 1 0");
        // A later line does not help an earlier one.
        rows("LANE; INPUT 2; SUB 0 1; LANE; SUB 3 1", "0 0 0 2 2", "0 1 2 0 2", "0 0 0 0 0");
        // Lines that give no value are no others than themselves.
        rows("LANE; OUT 0 0; OUT 0 0; PUT 0 0; PUT 0 0; DROP; DROP", "1 1 1 0 0 1 1", "0 1 2 3 4 5 6", "0 0 0 0 0 0 0");
    }

    private static void constsAlone() {
        Bench.sentence("3 to 10 with CONSTS alone (10: if a is one): a CONST, or for 10 the SAME as b or c.");
        last("CONST 6; CONST 9; ADD 0 1", 3, 2, 15);
        last("CONST 6; CONST 9; SUB 0 1", 3, 2, -3);
        last("CONST 6; CONST 9; MUL 0 1", 3, 2, 54);
        last("CONST 6; CONST 9; LESS 0 1", 3, 2, 1);
        last("CONST 6; CONST 9; SAME 0 1", 3, 2, 0);
        last("CONST 6; CONST 9; BOTH 0 1", 3, 2, 1);
        last("CONST 6; NOT 0", 3, 1, 0);
        // One CONST is not enough.
        for (String op : new String[] {"ADD", "SUB", "MUL", "LESS", "SAME", "BOTH"}) {
            last("CONST 6; LANE; " + op + " 0 1", 0, 2, 0);
            last("CONST 6; LANE; " + op + " 1 0", 0, 2, 0);
        }
        last("CONST 0; LANE; BOTH 0 1", 0, 2, 0);
        last("CONST 0; LANE; BOTH 1 0", 0, 2, 0);
        last("CONST -2147483648; LANE; LESS 1 0", 0, 2, 0);
        last("LANE; NOT 0", 0, 1, 0);
        // 12 to 16 are not looked at for this, nor GET.
        for (String op : new String[] {"ACROSS 0", "DOWN 0", "ANY 0", "FIRST 0", "GET 0"}) {
            last("CONST 6; " + op, 0, 1, 0);
        }
        last("CONST 6; TAKE 0 0", 1, 1, 0);
    }

    private static void pickOfAConst() {
        Bench.sentence("3 to 10 with CONSTS alone (10: if a is one): a CONST, or for 10 the SAME as b or c.");
        last("CONST 1; LANE; INPUT 2; PICK 0 1 2", 2, 1, 0);
        last("CONST 0; LANE; INPUT 2; PICK 0 1 2", 2, 2, 0);
        last("CONST -2147483648; LANE; INPUT 2; PICK 0 1 2", 2, 1, 0);
        last("CONST 1; CONST 8; LANE; PICK 0 1 2", 3, 1, 8);
        last("CONST 1; CONST 8; LANE; PICK 0 2 1", 2, 2, 0);
        last("CONST 0; CONST 8; CONST 9; PICK 0 1 2", 3, 2, 9);
        // b itself is the SAME as another one.
        last("CONST 1; LANE; LANE; INPUT 2; PICK 0 2 3", 2, 1, 0);
        last("CONST 0; CONST 0; PICK 0 0 1", 3, 0, 0);
        // a is no CONST.
        last("LANE; CONST 8; CONST 9; PICK 0 1 2", 0, 3, 0);
    }

    private static void theSameAsX() {
        Bench.sentence("ADD of x and a CONST 0 (either way round), SUB of x and CONST 0, MUL of x and CONST 1 (either way): the SAME as x.");
        last("LANE; CONST 0; ADD 0 1", 2, 0, 0);
        last("LANE; CONST 0; ADD 1 0", 2, 0, 0);
        last("LANE; CONST 0; SUB 0 1", 2, 0, 0);
        last("LANE; CONST 1; MUL 0 1", 2, 0, 0);
        last("LANE; CONST 1; MUL 1 0", 2, 0, 0);
        // Not these.
        last("LANE; CONST 0; SUB 1 0", 0, 2, 0);
        last("LANE; CONST 1; ADD 0 1", 0, 2, 0);
        last("LANE; CONST 1; ADD 1 0", 0, 2, 0);
        last("LANE; CONST 1; SUB 0 1", 0, 2, 0);
        last("LANE; CONST -1; MUL 0 1", 0, 2, 0);
        last("LANE; CONST 0; LESS 0 1", 0, 2, 0);
        last("LANE; CONST 0; SAME 0 1", 0, 2, 0);
        last("LANE; CONST 1; BOTH 0 1", 0, 2, 0);
        // x may be of any kind that gives a value.
        for (String x : new String[] {"INPUT 0", "GET 1", "ANY 0", "FIRST 0", "ACROSS 0", "DOWN 0", "NOT 0"}) {
            last("LANE; " + x + "; CONST 0; ADD 2 1", 2, 1, 0);
        }
        rows("LANE; TAKE 0 0; CONST 1; MUL 1 2", "1 1 3 2", "0 1 2 1", "0 0 1 0");
        // The 0 or 1 may be made.
        last("LANE; LESS 0 0; INPUT 2; ADD 1 2", 2, 2, 0);
        last("LANE; SAME 0 0; INPUT 2; MUL 2 1", 2, 2, 0);
        last("CONST 65536; MUL 0 0; INPUT 2; SUB 2 1", 2, 2, 0);
    }

    private static void timesNought() {
        Bench.sentence("MUL with a CONST 0: CONST 0.");
        last("LANE; CONST 0; MUL 0 1", 3, 1, 0);
        last("LANE; CONST 0; MUL 1 0", 3, 1, 0);
        last("LANE; SUB 0 0; MUL 0 1", 3, 1, 0);
        last("LANE; CONST 0; MUL 0 1; NOT 2", 3, 3, 1);
    }

    private static void withItself() {
        Bench.sentence("SUB x x, LESS x x: CONST 0; SAME x x: CONST 1.");
        last("LANE; SUB 0 0", 3, 1, 0);
        last("LANE; LESS 0 0", 3, 1, 0);
        last("LANE; SAME 0 0", 3, 1, 1);
        last("INPUT 2; INPUT 2; SUB 0 1", 3, 2, 0);
        last("INPUT 2; INPUT 2; LESS 1 0", 3, 2, 0);
        last("INPUT 2; INPUT 2; SAME 1 1", 3, 2, 1);
        // Not these, and not two that merely might be the same.
        last("LANE; BOTH 0 0", 0, 1, 0);
        last("LANE; ADD 0 0", 0, 1, 0);
        last("LANE; MUL 0 0", 0, 1, 0);
        last("INPUT 2; INPUT 3; SUB 0 1", 0, 2, 0);
        last("GET 0; GET 0; SUB 0 1", 0, 2, 0);
        last("LANE; ANY 0; ANY 0; SAME 1 2", 0, 3, 0);
        last("LANE; FIRST 0; FIRST 0; LESS 1 2", 0, 3, 0);
    }

    private static void pickOfTheSame() {
        Bench.sentence("PICK a x x: the SAME as x.");
        last("LANE; INPUT 2; PICK 0 1 1", 2, 1, 0);
        last("LANE; PICK 0 0 0", 2, 0, 0);
        last("LANE; INPUT 2; INPUT 2; PICK 0 1 2", 2, 1, 0);
        last("LANE; CONST 5; CONST 5; PICK 0 2 1", 3, 1, 5);
        last("LANE; INPUT 2; PICK 0 0 1", 0, 2, 0);
        last("LANE; CONST 5; CONST 6; PICK 0 1 2", 0, 3, 0);
    }

    private static void earlierLines() {
        Bench.sentence("of the same op (0 to 10, 12, 13; CONSTS that were made so count as such) with the same operands");
        last("CONST 5; CONST 5", 3, 0, 5);
        last("INPUT 3; INPUT 3", 2, 0, 0);
        last("LANE; LANE", 2, 0, 0);
        for (String op : new String[] {"ADD", "SUB", "MUL", "LESS", "SAME", "BOTH"}) {
            last("LANE; INPUT 2; " + op + " 0 1; " + op + " 0 1", 2, 2, 0);
            last("LANE; INPUT 2; INPUT 3; " + op + " 0 1; " + op + " 0 2", 0, 4, 0);
            last("LANE; INPUT 2; INPUT 3; " + op + " 0 1; " + op + " 2 1", 0, 4, 0);
        }
        for (String op : new String[] {"NOT", "ACROSS", "DOWN"}) {
            last("LANE; INPUT 2; " + op + " 1; " + op + " 1", 2, 2, 0);
            last("LANE; INPUT 2; " + op + " 1; " + op + " 0", 0, 3, 0);
        }
        last("LANE; INPUT 2; INPUT 3; PICK 0 1 2; PICK 0 1 2", 2, 3, 0);
        last("LANE; INPUT 2; INPUT 3; PICK 0 1 2; PICK 0 1 0", 0, 4, 0);
        // 11, 14, 15 and 16 are each for themselves.
        last("GET 0; GET 0", 0, 1, 0);
        last("LANE; ANY 0; ANY 0", 0, 2, 0);
        last("LANE; FIRST 0; FIRST 0", 0, 2, 0);
        last("LANE; TAKE 0 0; TAKE 0 0", 1, 2, 0);
        // Another op with the same operands is another line.
        last("LANE; INPUT 2; ADD 0 1; BOTH 0 1", 0, 3, 0);
        last("LANE; ACROSS 0; DOWN 0", 0, 2, 0);
        Bench.sentence("Else, if an earlier LINE, with no SAME of its own");
        rows("LANE; NOT 0; NOT 0; LANE; NOT 3; NOT 3", "0 0 2 2 2 2", "0 1 1 0 1 1", "0 0 0 0 0 0");
        rows("CONST 3; CONST 3; CONST 3; NOT 2; NOT 1", "3 3 3 3 3", "0 0 0 3 3", "3 3 3 0 0");
        // What was found by the rules before stands: x, although a line of the same op and operands is there.
        rows("LANE; CONST 0; ADD 0 1; ADD 0 1", "0 3 2 2", "0 1 0 0", "0 0 0 0");
    }

    private static void turnedRound() {
        Bench.sentence("(ADD, MUL, SAME, BOTH: also turned round; CONST, INPUT: the same a)");
        for (String op : new String[] {"ADD", "MUL", "SAME", "BOTH"}) {
            last("LANE; INPUT 2; " + op + " 0 1; " + op + " 1 0", 2, 2, 0);
            last("LANE; CONST 7; " + op + " 0 1; " + op + " 1 0", 2, 2, 0);
            last("LANE; INPUT 2; " + op + " 0 1; " + op + " 0 0", op.equals("SAME") ? 3 : 0, 3, op.equals("SAME") ? 1 : 0);
            last("LANE; INPUT 2; " + op + " 0 1; " + op + " 1 1", op.equals("SAME") ? 3 : 0, 3, op.equals("SAME") ? 1 : 0);
        }
        for (String op : new String[] {"SUB", "LESS"}) {
            last("LANE; INPUT 2; " + op + " 0 1; " + op + " 1 0", 0, 3, 0);
        }
        last("LANE; INPUT 2; INPUT 3; PICK 0 1 2; PICK 0 2 1", 0, 4, 0);
        last("LANE; INPUT 2; INPUT 3; PICK 0 1 2; PICK 1 0 2", 0, 4, 0);
    }

    private static void otherNumbers() {
        Bench.sentence("(ADD, MUL, SAME, BOTH: also turned round; CONST, INPUT: the same a)");
        last("CONST 5 1 2; CONST 5 3 4", 3, 0, 5);
        last("CONST 5; CONST -5", 3, 1, -5);
        last("CONST 2147483647; CONST -2147483648", 3, 1, Integer.MIN_VALUE);
        last("INPUT 1 7 7; INPUT 1 8 8", 2, 0, 0);
        last("INPUT 2; INPUT 3", 0, 1, 0);
        last("LANE 1 2 3; LANE 4 5 6", 2, 0, 0);
        last("LANE; NOT 0 9 9; NOT 0 8 8", 2, 1, 0);
        last("LANE; ADD 0 0 9; ADD 0 0 8", 2, 1, 0);
        last("LANE; DOWN 0 9 9; DOWN 0 8 8", 2, 1, 0);
    }

    private static void blocksThatAreOpen() {
        Bench.sentence("stands in a BLOCK that is open here: the SAME as the first such one.");
        rows("LANE; IF 0; NOT 0; NOT 0; ELSE; NOT 0; NOT 0; END; NOT 0; NOT 0",
                "1 1 0 2 1 0 2 1 0 2", "0 1 2 2 4 5 5 7 8 8", "0 0 0 0 0 0 0 0 0 0");
        rows("LANE; LOOP; NOT 0; BREAK; AGAIN; LOOP; NOT 0; BREAK; AGAIN; NOT 0",
                "0 1 0 1 1 1 0 1 1 0", "0 1 2 3 4 5 6 7 8 9", "0 0 0 0 0 0 0 0 0 0");
        // From four deep what stands in each of the blocks around is found.
        rows("LANE; IF 0; INPUT 0; IF 0; INPUT 1; IF 0; INPUT 2; IF 0; LANE; INPUT 0; INPUT 1; INPUT 2; INPUT 3; END; END; END; END",
                "1 1 0 1 0 1 0 1 2 2 2 2 0 1 1 1 1", "0 1 2 3 4 5 6 7 0 2 4 6 12 13 14 15 16", "0 0 0 0 0 0 0 0 0 0 0 0 0 0 0 0 0");
        // What stands before the IF is found in both parts and behind them.
        rows("LANE; NOT 0; IF 0; NOT 0; ELSE; NOT 0; END; NOT 0", "1 0 1 2 1 2 1 2", "0 1 2 1 4 1 6 1", "0 0 0 0 0 0 0 0");
        // CONSTS in parts that are over are each for themselves, but CONSTS.
        rows("LANE; IF 0; CONST 4; ELSE; CONST 4; CONST 4; END; CONST 4", "1 1 3 1 3 3 1 3", "0 1 2 3 4 4 6 7", "0 0 4 0 4 4 0 4");
    }

    private static void madeConsts() {
        Bench.sentence("A CONST that is made can be the SAME, too.");
        last("CONST 4; CONST 2; ADD 1 1", 3, 0, 4);
        last("CONST 2; ADD 0 0; CONST 4", 3, 1, 4);
        last("CONST 2; ADD 0 0; MUL 0 0", 3, 1, 4);
        last("LANE; SUB 0 0; LESS 0 0", 3, 1, 0);
        last("LANE; SAME 0 0; CONST 1", 3, 1, 1);
        last("LANE; CONST 1; SAME 0 0", 3, 1, 1);
        last("LANE; SUB 0 0; SAME 0 0", 3, 2, 1);
        // One that was made in a part that is over is not found.
        rows("LANE; IF 0; SUB 0 0; END; SUB 0 0; CONST 0", "1 1 3 1 3 3", "0 1 2 3 4 4", "0 0 0 0 0 0");
        // Operands that are made CONSTS count as those they are the SAME as.
        last("LANE; CONST 4; CONST 2; ADD 2 2; ADD 0 1; ADD 3 0", 2, 4, 0);
    }

    private static void neededAnyway() {
        Bench.sentence("NEEDED are OUT, IF, ELSE, END, LOOP, AGAIN, BREAK, DROP, TAKE");
        rows("CONST 0; OUT 0 0; IF 0; ELSE; END; LOOP; BREAK; AGAIN; DROP; TAKE 0 0",
                "3 1 1 1 1 1 1 1 1 1", "0 1 2 3 4 5 6 7 8 9", "0 0 0 0 0 0 0 0 0 0");
        // Also where they are never come to.
        rows("CONST 0; IF 0; OUT 0 0; DROP; TAKE 0 0; LOOP; BREAK; AGAIN; END", "3 1 1 1 1 1 1 1 1", "0 1 2 3 4 5 6 7 8", "0 0 0 0 0 0 0 0 0");
        // None of the others by itself.
        rows("CONST 1; INPUT 0; LANE; ADD 1 2; NOT 1; PICK 1 2 1; GET 0; ACROSS 2; DOWN 2; ANY 2; FIRST 2; PUT 0 2",
                "3 0 0 0 0 0 0 0 0 0 0 0", "0 1 2 3 4 5 6 7 8 9 10 11", "1 0 0 0 0 0 0 0 0 0 0 0");
    }

    private static void neededPuts() {
        Bench.sentence("PUT of a VARIABLE of which a GET is NEEDED");
        rows("LANE; PUT 0 0; GET 0; OUT 0 2", "1 1 1 1", "0 1 2 3", "0 0 0 0");
        rows("LANE; PUT 0 0; GET 0", "0 0 0", "0 1 2", "0 0 0");
        rows("LANE; PUT 0 0; GET 1; OUT 0 2", "0 0 1 1", "0 1 2 3", "0 0 0 0");
        rows("LANE; PUT 3 0; GET 3; PUT 2 2; GET 2; PUT 1 4; GET 1; PUT 0 6; GET 0; TAKE 0 8",
                "1 1 1 1 1 1 1 1 1 1", "0 1 2 3 4 5 6 7 8 9", "0 0 0 0 0 0 0 0 0 0");
        // Behind the GET, in a part that is left out, and all of them.
        rows("GET 2; OUT 0 0; LANE; PUT 2 2; CONST 0; IF 4; PUT 2 4; END; INPUT 2; PUT 2 8",
                "1 1 1 1 3 1 1 1 1 1", "0 1 2 3 4 5 6 7 8 9", "0 0 0 0 0 0 0 0 0 0");
        // Another GET of the same variable need not be NEEDED.
        rows("LANE; PUT 0 0; GET 0; GET 0; OUT 0 3", "1 1 0 1 1", "0 1 2 3 4", "0 0 0 0 0");
        // A PUT whose value only comes to itself is not.
        rows("CONST 1; GET 0; ADD 0 1; PUT 0 2", "3 0 0 0", "0 1 2 3", "1 0 0 0");
        rows("CONST 1; GET 0; ADD 0 1; PUT 0 2; IF 1; END", "3 1 1 1 1 1", "0 1 2 3 4 5", "1 0 0 0 0 0");
    }

    private static void neededOperands() {
        Bench.sentence("and LINES, but no CONSTS (nor those that were made so), that operands of NEEDED ones stand for");
        rows("LANE; LANE; NOT 1; OUT 0 2", "1 2 1 1", "0 0 2 3", "0 0 0 0");
        rows("LANE; CONST 0; ADD 0 1; OUT 0 2", "1 3 2 1", "0 1 0 3", "0 0 0 0");
        rows("CONST 5; CONST 5; OUT 0 1", "3 3 1", "0 0 2", "5 5 0");
        for (String op : new String[] {"ADD", "SUB", "MUL", "LESS", "SAME", "BOTH"}) {
            rows("INPUT 2; INPUT 3; LANE; " + op + " 0 1; OUT 0 3", "1 1 0 1 1", "0 1 2 3 4", "0 0 0 0 0");
        }
        for (String op : new String[] {"NOT", "ACROSS", "DOWN", "ANY", "FIRST"}) {
            rows("INPUT 2; INPUT 3; " + op + " 1; OUT 0 2", "0 1 1 1", "0 1 2 3", "0 0 0 0");
        }
        rows("INPUT 0; INPUT 1; INPUT 2; INPUT 3; PICK 1 2 3; OUT 0 4", "0 1 1 1 1 1", "0 1 2 3 4 5", "0 0 0 0 0 0");
        rows("INPUT 0; INPUT 1; TAKE 0 1; IF 0; END", "1 1 1 1 1", "0 1 2 3 4", "0 0 0 0 0");
    }

    private static void whatAConstWasMadeOf() {
        Bench.sentence("what a CONST was made of is not NEEDED by that.");
        rows("LANE; SUB 0 0; OUT 0 1", "0 3 1", "0 1 2", "0 0 0");
        rows("LANE; CONST 0; MUL 0 1; OUT 0 2", "0 3 3 1", "0 1 1 3", "0 0 0 0");
        rows("GET 0; SAME 0 0; OUT 0 1; LANE; PUT 0 3", "0 3 1 0 0", "0 1 2 3 4", "0 1 0 0 0");
        rows("CONST 1; LANE; INPUT 2; PICK 0 1 2; OUT 0 3", "3 1 0 2 1", "0 1 2 1 4", "1 0 0 0 0");
        rows("LANE; INPUT 2; PICK 0 1 1; OUT 0 2", "0 1 2 1", "0 1 1 3", "0 0 0 0");
        // TAKE is NEEDED, whatever is made of it.
        rows("LANE; TAKE 0 0; SUB 1 1; OUT 0 2", "1 1 3 1", "0 1 2 3", "0 0 0 0");
        // By something else it may be.
        rows("LANE; SUB 0 0; OUT 0 1; OUT 1 0", "1 3 1 1", "0 1 2 3", "0 0 0 0");
    }

    private static void onlyThose() {
        Bench.sentence("In a SHORT run only those are done (and count)");
        Bench.dueStates("LANE; CONST 3; ADD 0 1; PUT 0 2; GET 0; ANY 4", true, LaneDesk.DONE, "0 0 15 6 0");
        Bench.dueStates("LANE; CONST 3; ADD 0 1; PUT 0 2; GET 0; ANY 4", false, LaneDesk.DONE, "6 0 15 6 0");
        Bench.dueStates("LANE; CONST 3; ADD 0 1; PUT 0 2; GET 0; OUT 0 4", true, LaneDesk.DONE, "5 0 15 6 0");
        LaneDesk desk = Bench.desk("LANE; PUT 1 0; PUT 2 0; GET 2; OUT 3 3");
        desk.run(true);
        Bench.dueRow("a PUT that is not NEEDED is not done", Bench.keeps(desk, 1), NONE);
        Bench.dueRow("one that is, is", Bench.keeps(desk, 2), "0 1 2 3");
        Bench.dueRow("and the OUT", Bench.outs(desk, 3), "0 1 2 3");
        desk.run(false);
        Bench.dueRow("in a run that is not SHORT all are", Bench.keeps(desk, 1), "0 1 2 3");
        // 48 lines without a step.
        Bench.dueStates("LANE" + Bench.times(47, "GET 3"), true, LaneDesk.DONE, "0 0 15 48 0");
        Bench.dueStates("LANE" + Bench.times(46, "GET 3") + "; DROP", true, LaneDesk.DONE, "1 15 15 48 0");
    }

    private static void whatTheyStandFor() {
        Bench.sentence("operands are what they stand for, CONSTS are known without a STEP.");
        Bench.dueBothWays("CONST 5; OUT 0 0", NONE, NONE, "5 5 5 5");
        Bench.dueStates("CONST 5; OUT 0 0", true, LaneDesk.DONE, "1 0 15 2 0");
        Bench.dueStates("CONST 1; IF 0; DROP; ELSE; END", true, LaneDesk.DONE, "4 15 15 5 0");
        Bench.dueBothWays("INPUT 2; INPUT 2; CONST 0; ADD 1 2; LANE; SUB 3 4; OUT 0 5", "5 6 7 8", NONE, "5 5 5 5");
        Bench.dueBothWays("INPUT 2; INPUT 2; TAKE 0 1; OUT 0 2", "5 6 7 8", NONE, "0 5 11 18");
        Bench.dueBothWays("INPUT 2; INPUT 2; FIRST 1; OUT 0 2", "5 6 7 8", NONE, "5 5 5 5");
        Bench.dueBothWays("INPUT 2; INPUT 2; ACROSS 1; DOWN 2; ANY 1; ADD 3 4; OUT 0 5", "5 6 7 9", NONE, "2 2 2 2");
        Bench.dueBothWays("CONST 7; ACROSS 0; DOWN 0; ANY 0; FIRST 0; ADD 3 4; OUT 0 5", NONE, NONE, "8 8 8 8");
        Bench.dueBothWays("INPUT 2; INPUT 2; CONST 3; IF 1; OUT 0 2; END", "0 1 0 1", NONE, "0 3 0 3");
        // A CONST in a part is known there, and a line around for those that are ON.
        Bench.dueBothWays("INPUT 2; IF 0; INPUT 2; CONST 9; SUB 3 2; OUT 0 4; ELSE; CONST 9; OUT 0 7; END", "0 1 2 0", NONE, "9 8 7 9");
        // Inside a LOOP a line is the SAME as one of the same round, or of before.
        Bench.dueBothWays("INPUT 2; CONST 1; LOOP; GET 0; ADD 3 1; ADD 1 3; PUT 0 5; INPUT 2; LESS 4 7; NOT 8; IF 9; BREAK; END; AGAIN; GET 0; OUT 0 14",
                "1 2 3 4", NONE, "1 2 3 4");
    }

    private static void passedOver() {
        Bench.sentence("LINES in between that are not NEEDED, or are the SAME as others, or CONSTS, are passed over.");
        Bench.dueStates("CONST 1; LANE; LANE; INPUT 2; OUT 0 2", true, LaneDesk.DONE, "2 0 15 5 0");
        Bench.dueStates("LOOP; CONST 1; LANE; GET 0; AGAIN", true, LaneDesk.LONG, "400 0 15 4 399");
        Bench.dueStates("LOOP; CONST 1; LANE; GET 0; AGAIN", false, LaneDesk.LONG, "400 0 15 4 99");
        // Where none is ON, they are left out as the others are.
        Bench.dueStates("CONST 1; LOOP; BREAK; LANE; CONST 5; DROP; LANE; AGAIN; LANE", true, LaneDesk.DONE, "3 0 15 9 0");
    }
}
