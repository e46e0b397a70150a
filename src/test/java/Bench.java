import java.util.List;

/** What the tests share: comparing answers, and writing programs by the names of their lines. */
final class Bench {
    static final List<String> NAMES = List.of("CONST", "INPUT", "LANE", "ADD", "SUB", "MUL", "LESS", "SAME", "BOTH",
            "NOT", "PICK", "GET", "ACROSS", "DOWN", "ANY", "FIRST", "TAKE", "PUT", "OUT", "IF", "ELSE", "END", "LOOP",
            "AGAIN", "BREAK", "DROP");

    private static int wrong;

    private Bench() {
    }

    static void due(String call, long got, long want) {
        if (got != want) {
            wrong++;
            System.out.println(call + " answered " + got + ", due is " + want);
        }
    }

    static void due(String call, boolean got, boolean want) {
        due(call, got ? 1 : 0, want ? 1 : 0);
    }

    /** Compares a row of answers with one that is written out, such as "1 0 -1". */
    static void dueRow(String call, String got, String want) {
        if (!got.trim().equals(want.trim())) {
            wrong++;
            System.out.println(call + " answered [" + got.trim() + "], due is [" + want.trim() + "]");
        }
    }

    static void end() {
        if (wrong != 0) {
            System.out.println(wrong + " answers are not as due");
            System.exit(1);
        }
    }

    /** Adds lines such as "LANE; CONST 2; LESS 0 1"; numbers that are not written are 0. */
    static void load(LaneDesk desk, String program) {
        for (String line : program.split(";")) {
            String[] words = line.trim().split("\\s+");
            if (words[0].isEmpty()) {
                continue;
            }
            int[] numbers = new int[3];
            for (int k = 1; k < words.length; k++) {
                numbers[k - 1] = Integer.parseInt(words[k]);
            }
            int op = NAMES.indexOf(words[0]);
            if (op < 0 || desk.add(op, numbers[0], numbers[1], numbers[2]) < 0) {
                wrong++;
                System.out.println("this line was not taken: " + line);
            }
        }
    }

    static LaneDesk desk(String program) {
        LaneDesk desk = new LaneDesk();
        load(desk, program);
        return desk;
    }

    /** lanes(i, what) of lines 0 to count - 1. */
    static String lanes(LaneDesk desk, int count, int what) {
        StringBuilder row = new StringBuilder();
        for (int i = 0; i < count; i++) {
            row.append(desk.lanes(i, what)).append(' ');
        }
        return row.toString();
    }

    /** shorter(i, what) of lines 0 to count - 1. */
    static String shorter(LaneDesk desk, int count, int what) {
        StringBuilder row = new StringBuilder();
        for (int i = 0; i < count; i++) {
            row.append(desk.shorter(i, what)).append(' ');
        }
        return row.toString();
    }

    /** An output of each lane. */
    static String outs(LaneDesk desk, int k) {
        return desk.out(0, k) + " " + desk.out(1, k) + " " + desk.out(2, k) + " " + desk.out(3, k);
    }

    /** A variable, or a cell, of each lane. */
    static String keeps(LaneDesk desk, int k) {
        return desk.kept(0, k) + " " + desk.kept(1, k) + " " + desk.kept(2, k) + " " + desk.kept(3, k);
    }

    /** state(0) to state(4). */
    static String states(LaneDesk desk) {
        return desk.state(0) + " " + desk.state(1) + " " + desk.state(2) + " " + desk.state(3) + " " + desk.state(4);
    }
}
