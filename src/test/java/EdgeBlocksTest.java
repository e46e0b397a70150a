import java.util.ArrayList;
import java.util.List;

/** The edges in 'Terms', BLOCKS: empty ones, the fourth and the fifth one deep, and which lines stand where. */
public final class EdgeBlocksTest {
    public static void main(String[] args) {
        emptyBlocks();
        blocksOfTheirOwn();
        fourDeep();
        fiveDeep();
        deepInSecondParts();
        blockAround();
        operandsThatCount();
        numbersThatDoNot();
        Bench.end();
    }

    private static void depths(String program, String want) {
        LaneDesk desk = Bench.desk(program);
        int lines = want.split(" ").length;
        Bench.dueRow("depth in " + program, Bench.lanes(desk, lines, 2), want);
    }

    private static void emptyBlocks() {
        Bench.sentence("so are the LINES between IF and its ELSE, or END; between ELSE and END; between LOOP and AGAIN.");
        Bench.dueCheck("", 0, -1);
        Bench.dueCheck("LANE; IF 0; END", 0, -1);
        Bench.dueCheck("LANE; IF 0; ELSE; END", 0, -1);
        Bench.dueCheck("LOOP; AGAIN", 0, -1);
        Bench.dueStates("", false, LaneDesk.DONE, "0 0 15 0 0");
        Bench.dueStates("", true, LaneDesk.DONE, "0 0 15 0 0");
        Bench.dueStates("LANE; IF 0; END", false, LaneDesk.DONE, "3 0 15 3 0");
        Bench.dueStates("LANE; IF 0; ELSE; END", false, LaneDesk.DONE, "4 0 15 4 0");
        Bench.dueStates("CONST 0; IF 0; END", true, LaneDesk.DONE, "2 0 15 3 0");
        Bench.dueStates("CONST 0; IF 0; ELSE; END", false, LaneDesk.DONE, "3 0 15 4 0");
        Bench.dueStates("CONST 1; IF 0; ELSE; END", false, LaneDesk.DONE, "4 0 15 4 0");
        Bench.dueStates("CONST 1; LOOP; IF 0; ELSE; END; BREAK; AGAIN", false, LaneDesk.DONE, "7 0 15 7 0");
    }

    private static void blocksOfTheirOwn() {
        Bench.sentence("so are the LINES between IF and its ELSE, or END; between ELSE and END; between LOOP and AGAIN.");
        depths("LANE; IF 0; LANE; ELSE; LANE; END; LOOP; BREAK; AGAIN; LANE", "0 0 1 0 1 0 0 1 0 0");
        // The two parts of an IF are two blocks: what one gives, the other cannot take.
        Bench.dueCheck("LANE; IF 0; LANE; OUT 0 2; ELSE; LANE; OUT 0 5; END", 0, -1);
        Bench.dueCheck("LANE; IF 0; LANE; ELSE; OUT 0 2; END", 3, 4);
        // So are two LOOPs of the same depth.
        Bench.dueCheck("LOOP; LANE; BREAK; AGAIN; LOOP; OUT 0 1; BREAK; AGAIN", 3, 5);
    }

    /** Opens and closes as many as there are letters, I for an IF and L for a LOOP. */
    private static String nested(String letters) {
        StringBuilder opens = new StringBuilder("LANE");
        StringBuilder closes = new StringBuilder();
        for (char letter : letters.toCharArray()) {
            opens.append(letter == 'I' ? "; IF 0" : "; LOOP; BREAK");
            closes.insert(0, letter == 'I' ? "; END" : "; AGAIN");
        }
        return opens.append(closes).toString();
    }

    private static List<String> letters(int count) {
        List<String> all = new ArrayList<>();
        for (int bits = 0; bits < 1 << count; bits++) {
            StringBuilder word = new StringBuilder();
            for (int k = 0; k < count; k++) {
                word.append((bits >> k & 1) == 0 ? 'I' : 'L');
            }
            all.add(word.toString());
        }
        return all;
    }

    private static void fourDeep() {
        Bench.sentence("IF .. END and LOOP .. AGAIN stand one within another at most 4 deep.");
        for (int deep = 1; deep <= 4; deep++) {
            for (String word : letters(deep)) {
                Bench.dueCheck(nested(word), 0, -1);
            }
        }
        depths("LANE; IF 0; LOOP; IF 0; LOOP; BREAK; AGAIN; BREAK; END; BREAK; AGAIN; LANE; END", "0 0 1 2 3 4 3 3 2 2 1 1 0");
        depths("LANE; IF 0; IF 0; IF 0; IF 0; LANE; ELSE; LANE; END; END; END; END", "0 0 1 2 3 4 3 4 3 2 1 0");
        // One after another, as many as there is room for.
        Bench.dueCheck("LANE" + Bench.times(23, "IF 0; END"), 0, -1);
        Bench.dueCheck("LANE; IF 0; IF 0; IF 0; IF 0; END; LOOP; BREAK; AGAIN; IF 0; END; END; END; END", 0, -1);
        // All four are run: lane 3 alone comes to the innermost one.
        Bench.dueBothWays("LANE; CONST 1; CONST 2; CONST 3; IF 0; LESS 1 0; IF 5; LESS 2 0; IF 7; SAME 0 3; IF 9;"
                + " OUT 0 3; END; END; END; END", "0 0 0 0", "0 0 0 0", "0 0 0 3");
    }

    private static void fiveDeep() {
        Bench.sentence("IF .. END and LOOP .. AGAIN stand one within another at most 4 deep.");
        for (String word : letters(5)) {
            String outer = word.substring(0, 4);
            int lines = 1 + outer.length() + (int) outer.chars().filter(letter -> letter == 'L').count();
            Bench.dueCheck(nested(word), 1, lines);
        }
    }

    private static void deepInSecondParts() {
        Bench.sentence("IF .. END and LOOP .. AGAIN stand one within another at most 4 deep.");
        String three = "LANE; IF 0; ELSE; IF 0; ELSE; IF 0; ELSE; ";
        Bench.dueCheck(three + "IF 0; ELSE; LANE; END; END; END; END", 0, -1);
        Bench.dueCheck(three + "LOOP; BREAK; AGAIN; END; END; END", 0, -1);
        Bench.dueCheck(three + "IF 0; ELSE; IF 0; END; END; END; END; END", 1, 9);
        Bench.dueCheck(three + "IF 0; ELSE; LOOP; AGAIN; END; END; END; END", 1, 9);
        depths(three + "IF 0; ELSE; LANE; END; END; END; END", "0 0 0 1 1 2 2 3 3 4 3 2 1 0");
    }

    private static void blockAround() {
        Bench.sentence("(IF, ELSE, END, LOOP, AGAIN themselves stand in the BLOCK around.)");
        depths("LANE; IF 0; ELSE; END; LOOP; AGAIN", "0 0 0 0 0 0");
        depths("LANE; IF 0; IF 0; ELSE; END; LOOP; AGAIN; END", "0 0 1 1 1 1 1 0");
        LaneDesk desk = Bench.desk("LANE; IF 0; ELSE; END; LOOP; IF 0; BREAK; END; AGAIN");
        Bench.dueRow("not together", Bench.lanes(desk, 9, 1), "0 0 0 0 0 1 1 1 0");
        // An IF can take what stands before it in the block around, also behind a part that is over.
        Bench.dueCheck("LANE; IF 0; NOT 0; IF 2; END; ELSE; NOT 0; IF 6; END; END; IF 0; END", 0, -1);
    }

    /** Line 2 is no value, so that an operand there is wrong; line 0 and 1 are values. */
    private static void takesOperands(String op, String numbers, int count) {
        String[] words = numbers.split(" ");
        String close = op.equals("IF") ? "; END" : "";
        Bench.dueCheck("LANE; LANE; DROP; " + op + " 0 1 1" + close, 0, -1);
        int found = 0;
        for (int k = 0; k < 3; k++) {
            String[] changed = words.clone();
            changed[k] = "2";
            LaneDesk desk = Bench.desk("LANE; LANE; DROP; " + op + " " + String.join(" ", changed) + close);
            if (desk.check() == 2) {
                found++;
                Bench.due("place of the operand of " + op, desk.place(), 3);
            }
        }
        Bench.due("operands of " + op, found, count);
    }

    private static void operandsThatCount() {
        Bench.sentence("Operands are a and b of 3 to 8, a of 9, 12 to 15, IF, a, b, c of PICK, b of TAKE, PUT, OUT.");
        for (String op : new String[] {"ADD", "SUB", "MUL", "LESS", "SAME", "BOTH"}) {
            takesOperands(op, "0 1 1", 2);
        }
        for (String op : new String[] {"NOT", "ACROSS", "DOWN", "ANY", "FIRST", "IF", "TAKE", "PUT", "OUT"}) {
            takesOperands(op, "0 1 1", 1);
        }
        takesOperands("PICK", "0 1 1", 3);
        // Of TAKE, PUT and OUT it is b, and a is not looked at as a line.
        for (String op : new String[] {"TAKE", "PUT", "OUT"}) {
            Bench.dueCheck("LANE; DROP; DROP; DROP; " + op + " 3 0", 0, -1);
            Bench.dueCheck("LANE; DROP; DROP; DROP; " + op + " 0 3", 2, 4);
        }
    }

    private static void numbersThatDoNot() {
        Bench.sentence("Operands are a and b of 3 to 8, a of 9, 12 to 15, IF, a, b, c of PICK, b of TAKE, PUT, OUT.");
        String wild = " -2147483648 2147483647 -1";
        for (String op : new String[] {"CONST", "LANE", "DROP"}) {
            Bench.dueCheck(op + wild, 0, -1);
        }
        Bench.dueCheck("LANE; IF 0 -1 99; ELSE" + wild + "; END" + wild + "; LOOP" + wild + "; BREAK" + wild + "; AGAIN" + wild, 0, -1);
        for (int a = 0; a < 4; a++) {
            Bench.dueCheck("INPUT " + a + " -1 99", 0, -1);
            Bench.dueCheck("GET " + a + " -1 99", 0, -1);
        }
        for (String op : new String[] {"NOT", "ACROSS", "DOWN", "ANY", "FIRST"}) {
            Bench.dueCheck("LANE; " + op + " 0 -1 99", 0, -1);
        }
        for (String op : new String[] {"ADD", "SUB", "MUL", "LESS", "SAME", "BOTH", "TAKE", "PUT", "OUT"}) {
            Bench.dueCheck("LANE; " + op + " 0 0 99", 0, -1);
        }
    }
}
