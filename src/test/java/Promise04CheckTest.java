/** Promises 4 and 5: what is wrong, and where; the first wrong line counts, and for it the least number. */
public final class Promise04CheckTest {
    private static void wrong(String program, int sort, int place) {
        LaneDesk desk = Bench.desk(program);
        Bench.due("check of " + program, desk.check(), sort);
        Bench.due("place of " + program, desk.place(), place);
    }

    public static void main(String[] args) {
        wrong("", 0, -1);
        wrong("LANE; IF 0; ELSE; END; LOOP; BREAK; AGAIN", 0, -1);
        shape();
        deep();
        operands();
        eachOperand();
        blocksThatAreOver();
        differences();
        order();
        Bench.end();
    }

    private static void shape() {
        wrong("ELSE", 1, 0);
        wrong("END", 1, 0);
        wrong("AGAIN", 1, 0);
        wrong("BREAK", 1, 0);
        wrong("LANE; IF 0; ELSE; ELSE; END", 1, 3);
        wrong("LANE; IF 0; END; END", 1, 3);
        wrong("LOOP; AGAIN; AGAIN", 1, 2);
        wrong("LANE; IF 0; BREAK; END", 1, 2);
        wrong("LOOP; AGAIN; BREAK", 1, 2);
        wrong("LANE; LOOP; IF 0; BREAK; ELSE; BREAK; END; AGAIN", 0, -1);
        // One further out is open, but it is not the innermost.
        wrong("LANE; IF 0; LOOP; ELSE; AGAIN; END", 1, 3);
        wrong("LANE; IF 0; LOOP; END; AGAIN; END", 1, 3);
        wrong("LANE; LOOP; IF 0; AGAIN; END; AGAIN", 1, 3);
        wrong("LANE; LOOP; IF 0; ELSE; AGAIN", 1, 4);
        // Something is open behind the last line.
        wrong("LANE; IF 0", 1, 2);
        wrong("LANE; IF 0; ELSE", 1, 3);
        wrong("LOOP; LANE", 1, 2);
        wrong("LANE; IF 0; LOOP; BREAK; AGAIN", 1, 5);
        // An inner IF brings its own ELSE.
        wrong("LANE; IF 0; IF 0; ELSE; END; ELSE; IF 0; ELSE; END; END", 0, -1);
    }

    private static void deep() {
        wrong("LANE; IF 0; LOOP; IF 0; LOOP; BREAK; AGAIN; END; BREAK; AGAIN; END", 0, -1);
        wrong("LANE; IF 0; LOOP; IF 0; LOOP; IF 0; END; AGAIN; END; AGAIN; END", 1, 5);
        wrong("LANE; IF 0; ELSE; IF 0; ELSE; IF 0; ELSE; IF 0; ELSE; LOOP", 1, 9);
        wrong("LANE; IF 0; IF 0; IF 0; IF 0; END; IF 0; ELSE; LOOP; AGAIN", 1, 8);
        wrong("LANE; IF 0; IF 0; IF 0; IF 0; END; IF 0; ELSE; END; END; END; END", 0, -1);
        // The LOOP of a BREAK, and the block of an operand, can be four further out.
        wrong("LANE; LOOP; IF 0; IF 0; IF 0; BREAK; NOT 0; OUT 0 0; END; END; END; AGAIN", 0, -1);
        wrong("LANE; IF 0; IF 0; IF 0; IF 0; BREAK; END; END; END; END", 1, 5);
        // A fifth one deep is 1 although its operand is wrong, too.
        wrong("LANE; IF 0; IF 0; IF 0; IF 0; IF 99", 1, 5);
    }

    private static void operands() {
        wrong("ADD 0 0", 2, 0);
        wrong("LANE; ADD 0 1", 2, 1);
        wrong("LANE; ADD 0 -1", 2, 1);
        wrong("LANE; ADD 0 2; LANE", 2, 1);
        wrong("LANE; ADD 0 " + Integer.MAX_VALUE, 2, 1);
        wrong("LANE; ADD " + Integer.MIN_VALUE + " 0", 2, 1);
        wrong("LANE; PUT 0 0; OUT 0 1", 2, 2);
        wrong("LANE; DROP; NOT 1", 2, 2);
        wrong("LANE; IF 1; END", 2, 1);
        wrong("LANE; LOOP; IF 1; BREAK; END; AGAIN", 2, 2);
        wrong("LANE; IF 0; ELSE; NOT 2; END", 2, 3);
        // Numbers that are no operands are not looked at.
        wrong("CONST -5 99 99; INPUT 1 99 99; LANE 99 99 99; NOT 0 99 99; GET 2 99 99; ACROSS 0 99 99; ANY 0 99 99", 0, -1);
        wrong("LANE; ADD 0 0 99; TAKE 3 0 99; PUT 3 0 99; OUT 3 0 99; IF 0 99 99; ELSE 99 99 99; END 99 99 99", 0, -1);
        wrong("LOOP 99 99 99; BREAK 99 99 99; AGAIN 99 99 99; DROP 99 99 99", 0, -1);
    }

    private static void eachOperand() {
        String[] twos = {"ADD", "SUB", "MUL", "LESS", "SAME", "BOTH"};
        for (String op : twos) {
            wrong("LANE; " + op + " 0 0", 0, -1);
            wrong("LANE; " + op + " 7 0", 2, 1);
            wrong("LANE; " + op + " 0 7", 2, 1);
        }
        String[] ones = {"NOT", "ACROSS", "DOWN", "ANY", "FIRST"};
        for (String op : ones) {
            wrong("LANE; " + op + " 0", 0, -1);
            wrong("LANE; " + op + " 7", 2, 1);
        }
        wrong("LANE; PICK 0 0 0", 0, -1);
        wrong("LANE; PICK 7 0 0", 2, 1);
        wrong("LANE; PICK 0 7 0", 2, 1);
        wrong("LANE; PICK 0 0 7", 2, 1);
        String[] seconds = {"TAKE", "PUT", "OUT"};
        for (String op : seconds) {
            wrong("LANE; " + op + " 3 0", 0, -1);
            wrong("LANE; " + op + " 0 7", 2, 1);
        }
        wrong("LANE; IF 7; END", 2, 1);
        // Every kind that gives a value can be an operand.
        wrong("CONST 1; NOT 0; INPUT 0; NOT 2; LANE; NOT 4; ADD 0 0; NOT 6; NOT 7; PICK 0 0 0; NOT 9", 0, -1);
        wrong("GET 0; NOT 0; ACROSS 0; NOT 2; DOWN 0; NOT 4; ANY 0; NOT 6; FIRST 0; NOT 8; TAKE 0 0; NOT 10", 0, -1);
    }

    private static void blocksThatAreOver() {
        wrong("LANE; IF 0; CONST 1; ELSE; NOT 2; END", 3, 4);
        wrong("LANE; IF 0; CONST 1; END; NOT 2", 3, 4);
        wrong("LANE; IF 0; ELSE; CONST 1; END; NOT 3", 3, 5);
        wrong("LOOP; CONST 1; BREAK; AGAIN; NOT 1", 3, 4);
        wrong("LANE; IF 0; CONST 1; END; IF 2; END", 3, 4);
        wrong("LANE; IF 0; CONST 1; END; IF 0; NOT 2; END", 3, 5);
        wrong("LANE; IF 0; CONST 1; IF 2; NOT 2; ELSE; NOT 2; END; NOT 2; END", 0, -1);
        wrong("LANE; LOOP; CONST 1; IF 2; BREAK; END; OUT 0 2; AGAIN", 0, -1);
        // One operand is 3, another one of the same line is 2.
        wrong("LANE; IF 0; CONST 1; END; ADD 2 9", 2, 4);
        wrong("LANE; IF 0; CONST 1; END; ADD 9 2", 2, 4);
        wrong("LANE; IF 0; CONST 1; END; PICK 0 2 3", 2, 4);
        wrong("LANE; IF 0; CONST 1; END; PICK 0 0 2", 3, 4);
    }

    private static void differences() {
        wrong("LANE; IF 0; ACROSS 0; END", 4, 2);
        wrong("LANE; IF 0; ELSE; DOWN 0; END", 4, 3);
        wrong("CONST 1; IF 0; ACROSS 0; ELSE; DOWN 0; END", 0, -1);
        wrong("LANE; LOOP; DOWN 0; IF 0; BREAK; END; AGAIN", 4, 2);
        wrong("LANE; LOOP; ACROSS 0; BREAK; AGAIN; DOWN 0", 0, -1);
        wrong("LANE; IF 0; ANY 0; FIRST 0; END", 0, -1);
        wrong("LANE; IF 0; DOWN 0; ACROSS 0; END", 4, 2);
    }

    private static void order() {
        // The first wrong line counts, whatever its number.
        wrong("LANE; NOT 5; END", 2, 1);
        wrong("LANE; IF 0; CONST 1; END; NOT 2; END; NOT 99", 3, 4);
        // 4 counts only if nothing is wrong of 1 to 3, even behind it.
        wrong("LANE; IF 0; ACROSS 0; END; NOT 99", 2, 4);
        wrong("LANE; IF 0; ACROSS 0; END; END", 1, 4);
        wrong("LANE; IF 0; ACROSS 0", 1, 3);
        LaneDesk desk = Bench.desk("LANE; IF 0");
        Bench.due("open", desk.check(), 1);
        Bench.load(desk, "ACROSS 0; END");
        Bench.due("closed, but not together", desk.check(), 4);
        Bench.due("asked again", desk.place(), 2);
    }
}
