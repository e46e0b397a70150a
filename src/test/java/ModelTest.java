import java.util.ArrayList;
import java.util.List;
import java.util.Random;

/** Many made-up programs, always the same ones: LaneDesk and the Model must answer alike. */
public final class ModelTest {
    private static final int PROGRAMS = 20000;
    private static final int[] FREQUENT = {0, 0, 1, 2, 3, 4, 5, 6, 7, 8, 9, 10, 10, 11, 11, 12, 13, 14, 15, 16, 17, 17, 17,
        18, 18, 19, 19, 20, 21, 21, 22, 23, 24, 24, 25};

    private static List<int[]> current;
    private static int[] seenChecks = new int[5];
    private static int longRuns;
    private static int loopRuns;
    private static int shorterRuns;

    public static void main(String[] args) {
        Random random = new Random(20261116L);
        for (int k = 0; k < PROGRAMS; k++) {
            boolean wild = k % 4 == 0;
            compare(makeProgram(random, wild), makeInputs(random));
        }
        // The comparison is worth little if it does not reach all of this.
        for (int sort = 0; sort < 5; sort++) {
            Bench.due("programs with check " + sort + " were tried: " + seenChecks[sort], seenChecks[sort] > 100, true);
        }
        Bench.due("long runs were tried", longRuns > 100, true);
        Bench.due("runs with rounds that were done were tried", loopRuns > 100, true);
        Bench.due("runs that are shorter were tried", shorterRuns > 100, true);
        Bench.end();
    }

    static int[][] makeInputs(Random random) {
        int[][] inputs = new int[4][4];
        for (int k = 0; k < 4; k++) {
            for (int lane = 0; lane < 4; lane++) {
                inputs[lane][k] = k < 2 && lane > 0 ? inputs[0][k] : random.nextInt(7) - 3;
            }
        }
        return inputs;
    }

    static List<int[]> makeProgram(Random random, boolean wild) {
        List<int[]> program = new ArrayList<>();
        List<List<Integer>> reach = new ArrayList<>();
        List<Integer> open = new ArrayList<>();
        reach.add(new ArrayList<>());
        int size = 1 + random.nextInt(48);
        while (program.size() < size || !open.isEmpty() && program.size() < 48) {
            int top = open.isEmpty() ? -1 : open.get(open.size() - 1);
            int op = FREQUENT[random.nextInt(FREQUENT.length)];
            boolean slipsOp = wild && random.nextInt(60) == 0;
            boolean slipsOperand = wild && random.nextInt(25) == 0;
            boolean closing = program.size() >= size || 48 - program.size() <= open.size() + 1;
            if (closing && top >= 0 && !slipsOp) {
                op = top == 22 ? 23 : 21;
            }
            List<Integer> near = new ArrayList<>();
            reach.forEach(near::addAll);
            boolean usesOperand = op >= 3 && op <= 19 && op != 11;
            if (!slipsOp && !fits(op, open, top) || near.isEmpty() && usesOperand && !slipsOperand) {
                continue;
            }
            int[] line = {op, 0, 0, 0};
            for (int k = 1; k < 4; k++) {
                line[k] = pick(random, near, slipsOperand, program);
            }
            if (op == 0) {
                line[1] = random.nextInt(12) == 0 ? random.nextInt() : random.nextInt(4) - 1;
            }
            if (op == 1 || op == 11 || op == 16 || op == 17 || op == 18) {
                line[1] = random.nextInt(4);
            }
            append(line, program, open, reach);
            if (op == 22 && random.nextInt(5) > 0 && program.size() + 10 < 48 - open.size()) {
                appendCounting(random, program, open, reach);
            }
        }
        return program;
    }

    /** Lines at the beginning of a loop by which its lanes go out after a few rounds, mostly not all at once. */
    private static void appendCounting(Random random, List<int[]> program, List<Integer> open, List<List<Integer>> reach) {
        int at = program.size();
        int variable = random.nextInt(4);
        int[] bound = {random.nextInt(3), 2 + random.nextInt(2), 0, 0};
        int[][] lines = {{11, variable, 0, 0}, {0, 1, 0, 0}, bound, {3, at, at + 1, 0}, {17, variable, at + 3, 0},
            {6, at, at + 2, 0}, {9, at + 5, 0, 0}, {19, at + 6, 0, 0}, {24, 0, 0, 0}, {21, 0, 0, 0}};
        for (int[] line : lines) {
            append(line, program, open, reach);
        }
    }

    private static void append(int[] line, List<int[]> program, List<Integer> open, List<List<Integer>> reach) {
        follow(line[0], program.size(), open, reach);
        program.add(line);
    }

    private static boolean fits(int op, List<Integer> open, int top) {
        switch (op) {
            case 19: case 22: return open.size() < 4;
            case 20: return top == 19;
            case 21: return top == 19 || top == 20;
            case 23: return top == 22;
            case 24: return open.contains(22);
            default: return true;
        }
    }

    private static void follow(int op, int i, List<Integer> open, List<List<Integer>> reach) {
        if (op >= 20 && op <= 23 && op != 22 && !open.isEmpty()) {
            open.remove(open.size() - 1);
            reach.remove(reach.size() - 1);
        }
        if (op == 19 || op == 20 || op == 22) {
            open.add(op);
            reach.add(new ArrayList<>());
        }
        if (op <= 16) {
            reach.get(reach.size() - 1).add(i);
        }
    }

    private static int pick(Random random, List<Integer> near, boolean slip, List<int[]> program) {
        if (near.isEmpty() || slip && random.nextInt(4) == 0) {
            return random.nextInt(52) - 2;
        }
        if (slip) {
            // Looks for a line that gives a value, perhaps in a block that is over.
            int from = random.nextInt(program.size());
            while (from > 0 && program.get(from)[0] > 16) {
                from--;
            }
            return from;
        }
        // Often one of the latest, so that long chains come about.
        int from = random.nextBoolean() ? 0 : Math.max(0, near.size() - 4);
        return near.get(from + random.nextInt(near.size() - from));
    }

    private static void compare(List<int[]> program, int[][] inputs) {
        current = program;
        LaneDesk desk = new LaneDesk();
        for (int[] line : program) {
            desk.add(line[0], line[1], line[2], line[3]);
        }
        for (int lane = 0; lane < 4; lane++) {
            for (int k = 0; k < 4; k++) {
                desk.input(lane, k, inputs[lane][k]);
            }
        }
        Model model = new Model(program, inputs);
        seenChecks[model.check]++;
        due("check", desk.check(), model.check);
        due("place", desk.place(), model.place);
        compareLines(desk, model);
        if (model.check != 0) {
            due("run", desk.run(false), LaneDesk.BAD);
            due("short run", desk.run(true), LaneDesk.BAD);
            return;
        }
        compareRun(desk, model, false);
        int all = model.steps;
        int[][] outputs = model.outputs;
        boolean done = model.endLine == program.size();
        compareRun(desk, model, true);
        if (model.steps < all) {
            shorterRuns++;
        }
        if (done) {
            due("the short run is done, too", model.endLine, program.size());
            for (int lane = 0; lane < 4; lane++) {
                for (int k = 0; k < 4; k++) {
                    due("both ways the same output", model.outputs[lane][k], outputs[lane][k]);
                }
            }
        }
        for (String what : model.unsound) {
            due(what, 1, 0);
        }
    }

    private static void compareLines(LaneDesk desk, Model model) {
        boolean shaped = model.check == 0 || model.check == 4;
        for (int i = 0; i < model.program.size(); i++) {
            boolean gives = model.program.get(i)[0] <= 16;
            due("lanes(" + i + ", 0)", desk.lanes(i, 0), !shaped || !gives ? -1 : model.varied[i] ? 1 : 0);
            due("lanes(" + i + ", 1)", desk.lanes(i, 1), !shaped ? -1 : model.apart[i] ? 1 : 0);
            due("lanes(" + i + ", 2)", desk.lanes(i, 2), !shaped ? -1 : model.depth(i));
            boolean right = model.check == 0;
            int kind = model.number[i] != null ? 3 : model.same[i] != i ? 2 : model.needed[i] ? 1 : 0;
            due("shorter(" + i + ", 0)", desk.shorter(i, 0), right ? kind : -1);
            due("shorter(" + i + ", 1)", desk.shorter(i, 1), right ? model.same[i] : -1);
            due("shorter(" + i + ", 2)", desk.shorter(i, 2), !right ? -1 : model.number[i] == null ? 0 : model.number[i]);
        }
        for (int v = 0; v < 4; v++) {
            due("varied(" + v + ")", desk.varied(v), !shaped ? -1 : model.variableVaried[v] ? 1 : 0);
        }
    }

    private static void compareRun(LaneDesk desk, Model model, boolean isShort) {
        String which = isShort ? " of the short run" : " of the run";
        due("answer" + which, desk.run(isShort), model.run(isShort));
        due("steps" + which, desk.state(0), model.steps);
        due("dropped" + which, desk.state(1), model.dropped);
        due("on" + which, desk.state(2), model.endOn);
        due("next line" + which, desk.state(3), model.endLine);
        due("rounds" + which, desk.state(4), model.rounds);
        for (int lane = 0; lane < 4; lane++) {
            for (int k = 0; k < 4; k++) {
                due("out(" + lane + ", " + k + ")" + which, desk.out(lane, k), model.outputs[lane][k]);
                due("variable " + k + " of " + lane + which, desk.kept(lane, k), model.variables[lane][k]);
                due("cell " + k + which, desk.kept(lane, k + 4), model.cells[k]);
            }
        }
        boolean done = model.endLine == model.program.size();
        longRuns += done ? 0 : 1;
        loopRuns += done && model.rounds > 0 ? 1 : 0;
    }

    private static void due(String call, long got, long want) {
        if (got != want) {
            Bench.due(call + " in " + tell(current), got, want);
        }
    }

    static String tell(List<int[]> program) {
        StringBuilder text = new StringBuilder();
        for (int[] line : program) {
            text.append(Bench.NAMES.get(line[0])).append(' ').append(line[1]).append(' ').append(line[2]).append(' ')
                    .append(line[3]).append("; ");
        }
        return text.toString();
    }
}
