/** Promise 8: what a short run needs, what is the same as another line, and what is a CONST. */
public final class Promise08ShorterTest {
    private static void rows(String program, String kind, String same, String number) {
        LaneDesk desk = Bench.desk(program);
        int lines = kind.split(" ").length;
        Bench.dueRow("kinds in " + program, Bench.shorter(desk, lines, 0), kind);
        Bench.dueRow("same in " + program, Bench.shorter(desk, lines, 1), same);
        Bench.dueRow("numbers in " + program, Bench.shorter(desk, lines, 2), number);
        Bench.due("a line behind the last one in " + program, desk.shorter(lines, 0), LaneDesk.BAD);
    }

    /** The last line of a program: its kind, the line it is the same as, and its number. */
    private static void last(String program, int kind, int same, int number) {
        LaneDesk desk = Bench.desk(program);
        int i = program.split(";").length - 1;
        Bench.due("kind of the last of " + program, desk.shorter(i, 0), kind);
        Bench.due("same of the last of " + program, desk.shorter(i, 1), same);
        Bench.due("number of the last of " + program, desk.shorter(i, 2), number);
    }

    public static void main(String[] args) {
        constants();
        picks();
        neutral();
        alike();
        blocks();
        needs();
        wrongOnes();
        Bench.end();
    }

    private static void constants() {
        last("CONST 7; CONST 3; ADD 0 1", 3, 2, 10);
        last("CONST 7; CONST 3; SUB 1 0", 3, 2, -4);
        last("CONST 7; CONST 4; MUL 0 1", 3, 2, 28);
        last("CONST 7; CONST 3; LESS 0 1", 3, 2, 0);
        last("CONST 7; CONST 3; LESS 1 0", 3, 2, 1);
        last("CONST 7; CONST 3; SAME 0 1", 3, 2, 0);
        last("CONST 7; CONST 7; SAME 0 1", 3, 2, 1);
        last("CONST 7; CONST -3; BOTH 0 1", 3, 2, 1);
        last("CONST 7; CONST 0; BOTH 0 1", 3, 1, 0);
        last("CONST 7; NOT 0", 3, 1, 0);
        last("CONST 0; NOT 0", 3, 1, 1);
        // Sums wrap.
        last("CONST 2147483647; CONST 1; ADD 0 1", 3, 2, Integer.MIN_VALUE);
        last("CONST -2147483648; CONST 1; SUB 0 1", 3, 2, Integer.MAX_VALUE);
        last("CONST 65536; CONST 65538; MUL 0 1", 3, 2, 131072);
        last("CONST -2147483648; CONST 2147483647; LESS 0 1", 3, 2, 1);
        // A CONST that is made is the same as one that stands there, and the other way round.
        last("CONST 2; CONST 4; ADD 0 0", 3, 1, 4);
        last("CONST 2; ADD 0 0; CONST 4", 3, 1, 4);
        last("CONST 2; ADD 0 0; NOT 1; NOT 2; NOT 3", 3, 2, 0);
        rows("CONST 2; ADD 0 0; ADD 1 0; CONST 6; SAME 2 3", "3 3 3 3 3", "0 1 2 2 4", "2 4 6 6 1");
        // ACROSS, DOWN, ANY, FIRST and GET of what is known are not made CONSTS.
        rows("CONST 2; ACROSS 0; DOWN 0; ANY 0; FIRST 0; TAKE 0 0", "3 0 0 0 0 1", "0 1 2 3 4 5", "2 0 0 0 0 0");
    }

    private static void picks() {
        last("CONST 5; LANE; INPUT 2; PICK 0 1 2", 2, 1, 0);
        last("CONST 0; LANE; INPUT 2; PICK 0 1 2", 2, 2, 0);
        last("CONST 5; CONST 8; INPUT 2; PICK 0 1 2", 3, 1, 8);
        last("CONST 0; CONST 8; INPUT 2; PICK 0 2 1", 3, 1, 8);
        last("LANE; INPUT 2; PICK 0 1 1", 2, 1, 0);
        last("LANE; INPUT 2; INPUT 2; PICK 0 1 2", 2, 1, 0);
        last("LANE; CONST 4; CONST 4; PICK 0 1 2", 3, 1, 4);
        last("LANE; CONST 4; CONST 5; PICK 0 1 2", 0, 3, 0);
        // Chosen through a line that is the same itself.
        last("CONST 1; LANE; LANE; INPUT 3; PICK 0 2 3", 2, 1, 0);
        // With b and c turned it is another one.
        last("LANE; INPUT 2; INPUT 3; PICK 0 1 2; PICK 0 2 1", 0, 4, 0);
        last("LANE; INPUT 2; INPUT 3; PICK 0 1 2; PICK 0 1 2", 2, 3, 0);
        last("LANE; INPUT 2; INPUT 3; PICK 0 1 2; PICK 1 0 2", 0, 4, 0);
    }

    private static void neutral() {
        last("LANE; CONST 0; ADD 0 1", 2, 0, 0);
        last("LANE; CONST 0; ADD 1 0", 2, 0, 0);
        last("LANE; CONST 1; ADD 0 1", 0, 2, 0);
        last("LANE; CONST 0; SUB 0 1", 2, 0, 0);
        last("LANE; CONST 0; SUB 1 0", 0, 2, 0);
        last("LANE; CONST 1; SUB 0 1", 0, 2, 0);
        last("LANE; CONST 1; MUL 0 1", 2, 0, 0);
        last("LANE; CONST 1; MUL 1 0", 2, 0, 0);
        last("LANE; CONST 0; MUL 0 1", 3, 1, 0);
        last("LANE; CONST 0; MUL 1 0", 3, 1, 0);
        last("LANE; CONST 2; MUL 1 0", 0, 2, 0);
        last("LANE; SUB 0 0", 3, 1, 0);
        last("LANE; LESS 0 0", 3, 1, 0);
        last("LANE; SAME 0 0", 3, 1, 1);
        last("LANE; LANE; SUB 0 1", 3, 2, 0);
        last("LANE; LANE; LESS 1 0", 3, 2, 0);
        last("LANE; LANE; SAME 0 1", 3, 2, 1);
        // Nothing is said of these.
        last("LANE; BOTH 0 0", 0, 1, 0);
        last("LANE; ADD 0 0", 0, 1, 0);
        last("LANE; MUL 0 0", 0, 1, 0);
        last("LANE; CONST 0; BOTH 0 1", 0, 2, 0);
        last("LANE; NOT 0; NOT 1", 0, 2, 0);
        // A 0 that was made counts.
        last("LANE; SUB 0 0; INPUT 2; ADD 2 1", 2, 2, 0);
        last("LANE; SAME 0 0; INPUT 2; MUL 1 2", 2, 2, 0);
    }

    private static void alike() {
        String two = "LANE; INPUT 2; ";
        for (String op : new String[] {"ADD", "MUL", "SAME", "BOTH"}) {
            last(two + op + " 0 1; " + op + " 0 1", 2, 2, 0);
            last(two + op + " 0 1; " + op + " 1 0", 2, 2, 0);
        }
        for (String op : new String[] {"SUB", "LESS"}) {
            last(two + op + " 0 1; " + op + " 0 1", 2, 2, 0);
            last(two + op + " 0 1; " + op + " 1 0", 0, 3, 0);
        }
        for (String op : new String[] {"NOT", "ACROSS", "DOWN"}) {
            last(two + op + " 0; " + op + " 0", 2, 2, 0);
            last(two + op + " 0; " + op + " 1", 0, 3, 0);
        }
        last(two + "ACROSS 0; DOWN 0", 0, 3, 0);
        last(two + "ADD 0 1; MUL 0 1", 0, 3, 0);
        for (String op : new String[] {"GET", "ANY", "FIRST"}) {
            last(two + op + " 0; " + op + " 0", 0, 3, 0);
        }
        last(two + "TAKE 0 0; TAKE 0 0", 1, 3, 0);
        last("INPUT 0; INPUT 1; INPUT 0", 2, 0, 0);
        last("INPUT 0; INPUT 1", 0, 1, 0);
        last("LANE 1 2 3; LANE 4 5 6", 2, 0, 0);
        last("LANE; NOT 0 5 6; NOT 0 7 8", 2, 1, 0);
        last("CONST 3; CONST 4", 3, 1, 4);
        // The first such one, also through what others are the same as.
        rows("LANE; LANE; LANE; NOT 1; NOT 2; NOT 0", "0 2 2 0 2 2", "0 0 0 3 3 3", "0 0 0 0 0 0");
    }

    private static void blocks() {
        // Not from a part that is over; then the two stand for themselves.
        rows("LANE; IF 0; NOT 0; ELSE; NOT 0; END; NOT 0; NOT 0",
                "1 1 0 1 0 1 0 2", "0 1 2 3 4 5 6 6", "0 0 0 0 0 0 0 0");
        rows("LANE; IF 0; CONST 1; ELSE; CONST 1; END; CONST 1; IF 0; CONST 1; END",
                "1 1 3 1 3 1 3 1 3 1", "0 1 2 3 4 5 6 7 6 9", "0 0 1 0 1 0 1 0 1 0");
        rows("LANE; NOT 0; LOOP; NOT 0; IF 3; NOT 3; NOT 1; BREAK; END; NOT 3; AGAIN",
                "1 1 1 2 1 0 2 1 1 0 1", "0 1 2 1 4 5 5 7 8 9 10", "0 0 0 0 0 0 0 0 0 0 0");
        // What a block further out holds is found from two deep.
        rows("LANE; IF 0; INPUT 2; IF 2; INPUT 2; ELSE; INPUT 2; END; END; INPUT 2",
                "1 1 1 1 2 1 2 1 1 0", "0 1 2 3 2 5 2 7 8 9", "0 0 0 0 0 0 0 0 0 0");
    }

    private static void needs() {
        // OUT needs its operand's stand-in, but not what a CONST was made of.
        rows("LANE; LANE; INPUT 2; OUT 0 1", "1 2 0 1", "0 0 2 3", "0 0 0 0");
        rows("LANE; SUB 0 0; OUT 0 1", "0 3 1", "0 1 2", "0 0 0");
        rows("LANE; CONST 0; MUL 0 1; OUT 0 2; TAKE 1 2", "0 3 3 1 1", "0 1 1 3 4", "0 0 0 0 0");
        rows("CONST 1; LANE; INPUT 2; PICK 0 1 2; OUT 0 3", "3 1 0 2 1", "0 1 2 1 4", "1 0 0 0 0");
        // PUT counts if some GET of its variable is NEEDED, before or behind it.
        rows("LANE; PUT 0 0; GET 0; INPUT 2; PUT 1 3; GET 1; OUT 0 2", "1 1 1 0 0 0 1", "0 1 2 3 4 5 6", "0 0 0 0 0 0 0");
        rows("GET 0; OUT 0 0; LANE; PUT 0 2", "1 1 1 1", "0 1 2 3", "0 0 0 0");
        rows("GET 0; PUT 1 0; GET 1; PUT 2 2; GET 2; PUT 3 4; GET 3; OUT 0 6; LANE; PUT 0 8",
                "1 1 1 1 1 1 1 1 1 1", "0 1 2 3 4 5 6 7 8 9", "0 0 0 0 0 0 0 0 0 0");
        // Two that only feed each other are not NEEDED.
        rows("GET 0; PUT 1 0; GET 1; PUT 0 2", "0 0 0 0", "0 1 2 3", "0 0 0 0");
        rows("CONST 1; IF 0; ELSE; END; LOOP; BREAK; AGAIN; DROP; PUT 0 0",
                "3 1 1 1 1 1 1 1 0", "0 1 2 3 4 5 6 7 8", "1 0 0 0 0 0 0 0 0");
        rows("LANE; ANY 0; FIRST 1; ACROSS 2; DOWN 3; IF 4; END", "1 1 1 1 1 1 1", "0 1 2 3 4 5 6", "0 0 0 0 0 0 0");
        rows("LANE; INPUT 2; INPUT 3; PICK 0 1 2; TAKE 0 3", "1 1 1 1 1", "0 1 2 3 4", "0 0 0 0 0");
    }

    private static void wrongOnes() {
        LaneDesk desk = Bench.desk("LANE; OUT 0 0");
        for (int what = -2; what <= 5; what++) {
            Bench.due("line -1, what " + what, desk.shorter(-1, what), LaneDesk.BAD);
            Bench.due("line 2, what " + what, desk.shorter(2, what), LaneDesk.BAD);
            Bench.due("line 48, what " + what, desk.shorter(48, what), LaneDesk.BAD);
            if (what < 0 || what > 2) {
                Bench.due("what " + what, desk.shorter(0, what), LaneDesk.BAD);
            }
        }
        String[] programs = {"LANE; END", "LANE; NOT 7", "LANE; IF 0; LANE; END; NOT 2", "LANE; LOOP", "LANE; IF 0; DOWN 0; END"};
        for (String program : programs) {
            LaneDesk bad = Bench.desk(program);
            for (int what = 0; what < 3; what++) {
                Bench.due("line 0 of " + program + ", what " + what, bad.shorter(0, what), LaneDesk.BAD);
            }
        }
        // A further line can change what is NEEDED of the earlier ones.
        LaneDesk grows = Bench.desk("LANE");
        Bench.due("not needed yet", grows.shorter(0, 0), 0);
        Bench.load(grows, "OUT 0 0");
        Bench.due("needed now", grows.shorter(0, 0), 1);
        // Nothing is left of what was found of lines that were wiped.
        grows.wipe();
        Bench.load(grows, "GET 0; OUT 0 0; GET 1; OUT 0 2; GET 2; OUT 0 4; GET 3; OUT 0 6; CONST 3; CONST 3");
        Bench.dueRow("before", Bench.shorter(grows, 10, 0), "1 1 1 1 1 1 1 1 3 3");
        grows.wipe();
        Bench.load(grows, "LANE; PUT 0 0; GET 0; PUT 1 0; GET 1; PUT 2 0; GET 2; PUT 3 0; GET 3; GET 3");
        Bench.dueRow("kinds anew", Bench.shorter(grows, 10, 0), "0 0 0 0 0 0 0 0 0 0");
        Bench.dueRow("same anew", Bench.shorter(grows, 10, 1), "0 1 2 3 4 5 6 7 8 9");
        Bench.dueRow("numbers anew", Bench.shorter(grows, 10, 2), "0 0 0 0 0 0 0 0 0 0");
    }
}
