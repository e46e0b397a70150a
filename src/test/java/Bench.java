import java.io.IOException;
import java.nio.file.Files;
import java.nio.file.Path;
import java.util.List;

/** What the tests share: comparing answers, and writing programs by the names of their lines. */
final class Bench {
    static final List<String> NAMES = List.of("CONST", "INPUT", "LANE", "ADD", "SUB", "MUL", "LESS", "SAME", "BOTH",
            "NOT", "PICK", "GET", "ACROSS", "DOWN", "ANY", "FIRST", "TAKE", "PUT", "OUT", "IF", "ELSE", "END", "LOOP",
            "AGAIN", "BREAK", "DROP");

    /** Steps that the counting loop takes, all lines and those of a short run, and the lines it has. */
    static final int COUNTING_STEPS = 387, COUNTING_SHORT = 385, COUNTING_LINES = 12;

    private static int wrong;
    private static String sentence = "";
    private static String document;

    private Bench() {
    }

    /** Names the sentence that the answers from here on hold; a test that quotes what is not said is wrong itself. */
    static void sentence(String words) {
        sentence = "'" + words + "': ";
        if (!document().isEmpty() && !document().contains(words)) {
            wrong++;
            System.out.println("the document does not say: " + words);
        }
    }

    /** The document in one line; empty where it cannot be read, as the answers can be compared without it. */
    private static String document() {
        if (document == null) {
            try {
                document = Files.readString(Path.of("../shared/DOC.md")).replaceAll("\\s+", " ");
            } catch (IOException e) {
                document = "";
            }
        }
        return document;
    }

    static void due(String call, long got, long want) {
        if (got != want) {
            wrong++;
            System.out.println(sentence + call + " answered " + got + ", due is " + want);
        }
    }

    static void due(String call, boolean got, boolean want) {
        due(call, got ? 1 : 0, want ? 1 : 0);
    }

    /** Compares a row of answers with one that is written out, such as "1 0 -1". */
    static void dueRow(String call, String got, String want) {
        if (!got.trim().equals(want.trim())) {
            wrong++;
            System.out.println(sentence + call + " answered [" + got.trim() + "], due is [" + want.trim() + "]");
        }
    }

    static void end() {
        if (wrong != 0) {
            System.out.println(wrong + " answers are not as due");
            System.exit(1);
        }
    }

    /** Adds lines such as "LANE; CONST 2; LESS 0 1"; numbers that are not written are 0. */
    static void load(LaneDesk desk, String program) {
        for (String line : program.split(";")) {
            String[] words = line.trim().split("\\s+");
            if (words[0].isEmpty()) {
                continue;
            }
            int[] numbers = new int[3];
            for (int k = 1; k < words.length; k++) {
                numbers[k - 1] = Integer.parseInt(words[k]);
            }
            int op = NAMES.indexOf(words[0]);
            if (op < 0 || desk.add(op, numbers[0], numbers[1], numbers[2]) < 0) {
                wrong++;
                System.out.println("this line was not taken: " + line);
            }
        }
    }

    static LaneDesk desk(String program) {
        LaneDesk desk = new LaneDesk();
        load(desk, program);
        return desk;
    }

    /** What check and place answer for a program. */
    static void dueCheck(String program, int sort, int place) {
        LaneDesk desk = desk(program);
        due("check of " + program, desk.check(), sort);
        due("place of " + program, desk.place(), place);
    }

    /** Inputs k of lanes 0 to 3, written as a row. */
    static void inputs(LaneDesk desk, int k, String row) {
        String[] words = row.trim().split("\\s+");
        for (int lane = 0; lane < 4; lane++) {
            due("input " + k + " of lane " + lane, desk.input(lane, k, Integer.parseInt(words[lane])), true);
        }
    }

    /** Output 0 of each lane with these inputs 2 and 3, the long way and the short one; the desk is as the short one left it. */
    static LaneDesk dueBothWays(String program, String twos, String threes, String want) {
        LaneDesk desk = desk(program);
        inputs(desk, 2, twos);
        inputs(desk, 3, threes);
        due("run of " + program, desk.run(false), LaneDesk.DONE);
        dueRow("output 0 of " + program + " with " + twos + " and " + threes, outs(desk, 0), want);
        due("short run of " + program, desk.run(true), LaneDesk.DONE);
        dueRow("output 0, short, of " + program + " with " + twos + " and " + threes, outs(desk, 0), want);
        return desk;
    }

    /** What a run of a program answers, and state(0) to state(4) behind it. */
    static LaneDesk dueStates(String program, boolean isShort, int how, String states) {
        LaneDesk desk = desk(program);
        String which = isShort ? "short run of " : "run of ";
        due(which + program, desk.run(isShort), how);
        dueRow("state behind the " + which + program, states(desk), states);
        return desk;
    }

    /** A loop of 48 rounds, 47 of them begun again; variable 0 counts them. */
    static String counting() {
        return "CONST 48; CONST 1; LOOP; GET 0; ADD 3 1; PUT 0 4; LESS 4 0; IF 6; ELSE; BREAK; END; AGAIN";
    }

    /** As many times the same line, each with a semicolon before it. */
    static String times(int count, String line) {
        return ("; " + line).repeat(count);
    }

    /** lanes(i, what) of lines 0 to count - 1. */
    static String lanes(LaneDesk desk, int count, int what) {
        StringBuilder row = new StringBuilder();
        for (int i = 0; i < count; i++) {
            row.append(desk.lanes(i, what)).append(' ');
        }
        return row.toString();
    }

    /** shorter(i, what) of lines 0 to count - 1. */
    static String shorter(LaneDesk desk, int count, int what) {
        StringBuilder row = new StringBuilder();
        for (int i = 0; i < count; i++) {
            row.append(desk.shorter(i, what)).append(' ');
        }
        return row.toString();
    }

    /** An output of each lane. */
    static String outs(LaneDesk desk, int k) {
        return desk.out(0, k) + " " + desk.out(1, k) + " " + desk.out(2, k) + " " + desk.out(3, k);
    }

    /** A variable, or a cell, of each lane. */
    static String keeps(LaneDesk desk, int k) {
        return desk.kept(0, k) + " " + desk.kept(1, k) + " " + desk.kept(2, k) + " " + desk.kept(3, k);
    }

    /** All that can be asked of the latest run. */
    static String told(LaneDesk desk) {
        StringBuilder row = new StringBuilder(states(desk));
        for (int k = 0; k < 4; k++) {
            row.append(" | ").append(outs(desk, k)).append(" | ").append(keeps(desk, k)).append(" | ").append(keeps(desk, k + 4));
        }
        return row.toString();
    }

    /** All that can be asked of the lines, of which there are so many, and one more number. */
    static String looked(LaneDesk desk, int lines) {
        StringBuilder row = new StringBuilder(desk.check() + " " + desk.place());
        for (int what = 0; what < 3; what++) {
            row.append(" | ").append(lanes(desk, lines + 1, what)).append("| ").append(shorter(desk, lines + 1, what));
        }
        for (int v = 0; v < 4; v++) {
            row.append("| ").append(desk.varied(v));
        }
        return row.toString();
    }

    /** state(0) to state(4). */
    static String states(LaneDesk desk) {
        return desk.state(0) + " " + desk.state(1) + " " + desk.state(2) + " " + desk.state(3) + " " + desk.state(4);
    }
}
