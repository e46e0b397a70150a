/** The edges in 'Terms', CHECKED: each way to be wrong beside what is just right, and which of several counts. */
public final class EdgeCheckedTest {
    private static final String[] NO_VALUE = {"PUT 0 0", "OUT 0 0", "DROP"};

    public static void main(String[] args) {
        firstAndLeast();
        elseAndEnd();
        secondElse();
        again();
        breaks();
        fifth();
        noLineBefore();
        noValue();
        blocksThatAreOver();
        blocksThatAreOpen();
        differences();
        differencesLast();
        behindTheLast();
        Bench.end();
    }

    private static void firstAndLeast() {
        Bench.sentence("the first LINE that is WRONG counts, and for that the least number");
        Bench.dueCheck("NOT 0; END", 2, 0);
        Bench.dueCheck("END; NOT 9", 1, 0);
        Bench.dueCheck("LANE; IF 0; LANE; END; OUT 0 2; OUT 0 9; AGAIN", 3, 4);
        Bench.dueCheck("LANE; IF 0; LANE; END; OUT 0 9; OUT 0 2; AGAIN", 2, 4);
        Bench.dueCheck("LANE; IF 0; LANE; END; AGAIN; OUT 0 9; OUT 0 2", 1, 4);
        // One line that is wrong in more than one way.
        Bench.dueCheck("LANE; IF 0; LANE; END; ADD 2 4", 2, 4);
        Bench.dueCheck("LANE; IF 0; LANE; END; ADD 4 2", 2, 4);
        Bench.dueCheck("LANE; IF 0; LANE; END; PICK 2 2 4", 2, 4);
        Bench.dueCheck("LANE; IF 0; IF 0; IF 0; IF 0; IF -1", 1, 5);
        Bench.dueCheck("LANE; IF 0; LANE; END; IF 0; IF 0; IF 0; IF 0; IF 2", 1, 8);
        // An open IF is the last thing that counts of 1 to 3.
        Bench.dueCheck("LANE; IF 0; OUT 0 1", 2, 2);
        Bench.dueCheck("LANE; IF 0; LANE; END; LOOP; OUT 0 2", 3, 5);
    }

    private static void elseAndEnd() {
        Bench.sentence("1 ELSE, END without an IF that is open");
        Bench.dueCheck("ELSE", 1, 0);
        Bench.dueCheck("END", 1, 0);
        Bench.dueCheck("LANE; IF 0; END; ELSE", 1, 3);
        Bench.dueCheck("LANE; IF 0; END; END", 1, 3);
        Bench.dueCheck("LANE; IF 0; ELSE; END; END", 1, 4);
        Bench.dueCheck("LOOP; END", 1, 1);
        Bench.dueCheck("LOOP; ELSE", 1, 1);
        Bench.dueCheck("LANE; IF 0; ELSE; END", 0, -1);
    }

    private static void secondElse() {
        Bench.sentence("a second ELSE");
        Bench.dueCheck("LANE; IF 0; ELSE; ELSE; END", 1, 3);
        Bench.dueCheck("LANE; IF 0; ELSE; LANE; ELSE; END", 1, 4);
        Bench.dueCheck("LANE; IF 0; ELSE; IF 0; ELSE; END; ELSE; END", 1, 6);
        Bench.dueCheck("LANE; IF 0; ELSE; IF 0; ELSE; END; END", 0, -1);
        Bench.dueCheck("LANE; IF 0; IF 0; ELSE; END; ELSE; END", 0, -1);
        Bench.dueCheck("LANE; IF 0; ELSE; END; IF 0; ELSE; END", 0, -1);
    }

    private static void again() {
        Bench.sentence("AGAIN without a LOOP that is open");
        Bench.dueCheck("AGAIN", 1, 0);
        Bench.dueCheck("LOOP; AGAIN; AGAIN", 1, 2);
        Bench.dueCheck("LANE; IF 0; AGAIN", 1, 2);
        Bench.dueCheck("LANE; IF 0; ELSE; AGAIN", 1, 3);
        Bench.dueCheck("LOOP; LOOP; AGAIN; AGAIN", 0, -1);
    }

    private static void breaks() {
        Bench.sentence("BREAK not within a LOOP");
        Bench.dueCheck("BREAK", 1, 0);
        Bench.dueCheck("LOOP; AGAIN; BREAK", 1, 2);
        Bench.dueCheck("BREAK; LOOP; AGAIN", 1, 0);
        Bench.dueCheck("LANE; IF 0; IF 0; IF 0; IF 0; BREAK", 1, 5);
        Bench.dueCheck("LANE; IF 0; ELSE; BREAK", 1, 3);
        Bench.dueCheck("LANE; IF 0; LOOP; AGAIN; BREAK; END", 1, 4);
        // The LOOP may be the outermost of four, and the BREAK in second parts.
        Bench.dueCheck("LANE; LOOP; IF 0; ELSE; IF 0; ELSE; IF 0; ELSE; BREAK; END; END; END; AGAIN", 0, -1);
        Bench.dueCheck("LANE; IF 0; IF 0; IF 0; LOOP; BREAK; AGAIN; END; END; END", 0, -1);
        Bench.dueCheck("LANE; LOOP; LOOP; AGAIN; BREAK; AGAIN", 0, -1);
    }

    private static void fifth() {
        Bench.sentence("IF or LOOP that is a fifth one deep");
        Bench.dueCheck("LANE; IF 0; IF 0; IF 0; IF 0; IF 0", 1, 5);
        Bench.dueCheck("LOOP; LOOP; LOOP; LOOP; LOOP", 1, 4);
        Bench.dueCheck("LOOP; LOOP; LOOP; LOOP; AGAIN; LOOP; AGAIN; AGAIN; AGAIN; AGAIN", 0, -1);
        Bench.dueCheck("LOOP; LOOP; LOOP; LOOP; AGAIN; LOOP; LOOP", 1, 6);
    }

    private static void noLineBefore() {
        Bench.sentence("2 an operand that is no LINE before, or one that gives no VALUE");
        Bench.dueCheck("NOT 0", 2, 0);
        Bench.dueCheck("NOT -1", 2, 0);
        Bench.dueCheck("LANE; NOT 0", 0, -1);
        for (int far : new int[] {1, 2, 3, 47, 48, 49, 1000, -1, -2, Integer.MAX_VALUE, Integer.MIN_VALUE}) {
            Bench.dueCheck("LANE; NOT " + far + "; LANE", 2, 1);
            Bench.dueCheck("LANE; OUT 0 " + far + "; LANE", 2, 1);
            Bench.dueCheck("LANE; PICK 0 0 " + far + "; LANE", 2, 1);
            Bench.dueCheck("LANE; IF " + far + "; END", 2, 1);
        }
        // What a line before a wipe was is no line now.
        LaneDesk desk = Bench.desk("LANE; LANE; LANE");
        desk.wipe();
        Bench.load(desk, "LANE; NOT 1");
        Bench.due("check behind a wipe", desk.check(), 2);
        Bench.due("place behind a wipe", desk.place(), 1);
        // In a LOOP, too, it must stand before.
        Bench.dueCheck("LOOP; NOT 2; LANE; BREAK; AGAIN", 2, 1);
    }

    private static void noValue() {
        Bench.sentence("2 an operand that is no LINE before, or one that gives no VALUE");
        for (String other : NO_VALUE) {
            Bench.dueCheck("LANE; " + other + "; NOT 1", 2, 2);
        }
        Bench.dueCheck("LANE; IF 0; NOT 1; END", 2, 2);
        Bench.dueCheck("LANE; IF 0; ELSE; NOT 2; END", 2, 3);
        Bench.dueCheck("LANE; IF 0; END; NOT 2", 2, 3);
        Bench.dueCheck("LOOP; NOT 0; AGAIN", 2, 1);
        Bench.dueCheck("LOOP; AGAIN; NOT 1", 2, 2);
        Bench.dueCheck("LOOP; BREAK; NOT 1; AGAIN", 2, 2);
        // A line that gives none is 2 also where its block is over.
        Bench.dueCheck("LANE; IF 0; DROP; END; NOT 2", 2, 4);
        // TAKE is the last kind that gives one.
        Bench.dueCheck("LANE; TAKE 0 0; NOT 1", 0, -1);
        Bench.dueCheck("CONST 0; NOT 0; INPUT 3; NOT 2; GET 3; NOT 4; ANY 0; NOT 6; FIRST 0; NOT 8; DOWN 0; NOT 10", 0, -1);
    }

    private static void blocksThatAreOver() {
        Bench.sentence("3 an operand in a BLOCK that is over");
        Bench.dueCheck("LANE; IF 0; LANE; END; NOT 2", 3, 4);
        Bench.dueCheck("LANE; IF 0; LANE; ELSE; NOT 2; END", 3, 4);
        Bench.dueCheck("LANE; IF 0; ELSE; LANE; END; NOT 3", 3, 5);
        Bench.dueCheck("LOOP; LANE; BREAK; AGAIN; NOT 1", 3, 4);
        // Just at the line that closes, or opens the next one.
        Bench.dueCheck("LANE; IF 0; LANE; END; IF 2; END", 3, 4);
        Bench.dueCheck("LANE; IF 0; LANE; ELSE; IF 2; END; END", 3, 4);
        // Four deep, seen from each of the blocks around.
        String deep = "LANE; IF 0; IF 0; IF 0; IF 0; LANE";
        Bench.dueCheck(deep + "; END; NOT 5; END; END; END", 3, 7);
        Bench.dueCheck(deep + "; END; END; END; END; NOT 5", 3, 10);
        Bench.dueCheck(deep + "; ELSE; NOT 5; END; END; END; END", 3, 7);
        Bench.dueCheck("LANE; IF 0; LANE; IF 0; IF 0; IF 0; END; END; END; END; NOT 2", 3, 10);
        // Each operand is looked at.
        Bench.dueCheck("LANE; IF 0; LANE; END; ADD 0 2", 3, 4);
        Bench.dueCheck("LANE; IF 0; LANE; END; ADD 2 0", 3, 4);
        Bench.dueCheck("LANE; IF 0; LANE; END; PICK 0 2 0", 3, 4);
        Bench.dueCheck("LANE; IF 0; LANE; END; PICK 0 0 2", 3, 4);
        Bench.dueCheck("LANE; IF 0; LANE; END; TAKE 0 2", 3, 4);
        Bench.dueCheck("LANE; IF 0; LANE; END; PUT 0 2", 3, 4);
        Bench.dueCheck("LANE; IF 0; LANE; END; ACROSS 2", 3, 4);
    }

    private static void blocksThatAreOpen() {
        Bench.sentence("3 an operand in a BLOCK that is over");
        Bench.dueCheck("LANE; IF 0; LANE; NOT 2; END", 0, -1);
        Bench.dueCheck("LANE; IF 0; LANE; IF 2; NOT 2; ELSE; NOT 2; END; NOT 2; END; NOT 0", 0, -1);
        Bench.dueCheck("LANE; IF 0; IF 0; IF 0; IF 0; NOT 0; ELSE; NOT 0; END; NOT 0; END; NOT 0; END; NOT 0; END; NOT 0", 0, -1);
        Bench.dueCheck("LOOP; LANE; LOOP; NOT 1; BREAK; AGAIN; NOT 1; BREAK; AGAIN", 0, -1);
    }

    private static void differences() {
        Bench.sentence("4 ACROSS or DOWN that is not TOGETHER (this only if nothing is WRONG of 1 to 3).");
        for (String op : new String[] {"ACROSS", "DOWN"}) {
            Bench.dueCheck("LANE; IF 0; " + op + " 0; END", 4, 2);
            Bench.dueCheck("LANE; IF 0; ELSE; " + op + " 0; END", 4, 3);
            Bench.dueCheck("LANE; IF 0; END; " + op + " 0", 0, -1);
            Bench.dueCheck("CONST 1; IF 0; " + op + " 0; ELSE; " + op + " 0; END", 0, -1);
            Bench.dueCheck("LANE; LOOP; " + op + " 0; IF 0; BREAK; END; AGAIN", 4, 2);
            Bench.dueCheck("LANE; LOOP; IF 0; BREAK; END; AGAIN; " + op + " 0", 0, -1);
            // Also where what it takes is the same for all, and where three blocks lie between.
            Bench.dueCheck("LANE; CONST 1; IF 0; " + op + " 1; END", 4, 3);
            Bench.dueCheck("LANE; CONST 1; IF 0; IF 1; LOOP; IF 1; " + op + " 1; END; BREAK; AGAIN; END; END", 4, 6);
            // The first of two counts.
            Bench.dueCheck("LANE; IF 0; " + op + " 0; DOWN 0; ACROSS 0; END", 4, 2);
        }
        Bench.dueCheck("LANE; IF 0; ANY 0; FIRST 0; TAKE 0 0; DROP; END", 0, -1);
    }

    private static void differencesLast() {
        Bench.sentence("(this only if nothing is WRONG of 1 to 3)");
        String four = "LANE; IF 0; DOWN 0; END";
        Bench.dueCheck(four, 4, 2);
        Bench.dueCheck(four + "; END", 1, 4);
        Bench.dueCheck(four + "; NOT 4", 2, 4);
        Bench.dueCheck(four + "; NOT 2", 3, 4);
        Bench.dueCheck(four + "; LOOP", 1, 5);
        Bench.dueCheck("LANE; IF 0; DOWN 0", 1, 3);
        Bench.dueCheck("LANE; IF 0; DOWN 7; END", 2, 2);
    }

    private static void behindTheLast() {
        Bench.sentence("For the LINE behind the last one: 1 if an IF or LOOP is open.");
        Bench.dueCheck("LOOP", 1, 1);
        Bench.dueCheck("LANE; IF 0", 1, 2);
        Bench.dueCheck("LANE; IF 0; ELSE", 1, 3);
        Bench.dueCheck("LANE; IF 0; LOOP; BREAK; AGAIN", 1, 5);
        Bench.dueCheck("LOOP; LOOP; LOOP; LOOP", 1, 4);
        Bench.dueCheck("LOOP" + Bench.times(47, "LANE"), 1, 48);
        Bench.dueCheck("LOOP" + Bench.times(46, "LANE") + "; AGAIN", 0, -1);
        Bench.dueCheck("", 0, -1);
    }
}
