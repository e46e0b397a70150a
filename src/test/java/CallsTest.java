import java.util.ArrayList;
import java.util.List;
import java.util.Random;

/** Long rows of made-up calls, always the same ones, good and refused mixed: each answer must be that of the Model. */
public final class CallsTest {
    private static final int OBJECTS = 1500, CALLS = 512;
    private static final int[] EDGES = {-1, 4, 8, 26, 47, 48, 49, Integer.MIN_VALUE, Integer.MAX_VALUE};

    private static int refused;
    private static int wiped;
    private static int full;
    private static final int[] RUNS = new int[3];

    private final Random random;
    private final LaneDesk desk = new LaneDesk();
    private final List<int[]> lines = new ArrayList<>();
    private final int[][] inputs = new int[4][4];
    private final List<int[]> planned = new ArrayList<>();
    private final StringBuilder history = new StringBuilder();
    private Model looked;
    private Model ran;
    private boolean told;

    private CallsTest(Random random) {
        this.random = random;
    }

    public static void main(String[] args) {
        Random random = new Random(512L);
        for (int k = 0; k < OBJECTS; k++) {
            CallsTest one = new CallsTest(random);
            for (int calls = 0; calls < CALLS && !one.told; calls++) {
                one.call();
            }
        }
        // The rows are worth little if they do not come to all of this.
        Bench.due("lines that are refused were tried", refused > 1000, true);
        Bench.due("lines for which there is no room were tried", full > 100, true);
        Bench.due("wipes of some lines were tried", wiped > 1000, true);
        Bench.due("runs that are refused were tried", RUNS[0] > 1000, true);
        Bench.due("runs that are done were tried", RUNS[1] > 1000, true);
        Bench.due("long runs were tried", RUNS[2] > 1000, true);
        Bench.end();
    }

    private void due(String call, long got, long want) {
        history.append(call).append("; ");
        if (got != want && !told) {
            told = true;
            Bench.due("behind " + history + "the last one", got, want);
        }
    }

    /** Mostly a number that there is, now and then one that there is not. */
    private int number(int bound) {
        return random.nextInt(12) == 0 ? EDGES[random.nextInt(EDGES.length)] : random.nextInt(bound);
    }

    private Model model() {
        if (looked == null) {
            looked = new Model(List.copyOf(lines), inputs);
        }
        return looked;
    }

    private void call() {
        if (planned.isEmpty() && (lines.isEmpty() || random.nextInt(60) == 0)) {
            planned.addAll(ModelTest.makeProgram(random, random.nextInt(4) == 0));
            wipe();
            return;
        }
        int kind = random.nextInt(planned.isEmpty() ? 24 : 60);
        if (kind < 14) {
            ask(kind);
        } else if (kind == 14) {
            addAny();
        } else if (kind < 18) {
            input();
        } else if (kind < 22) {
            run(random.nextBoolean());
        } else if (planned.isEmpty()) {
            ask(random.nextInt(14));
        } else {
            add(planned.remove(0));
        }
    }

    private void wipe() {
        wiped += lines.isEmpty() ? 0 : 1;
        due("wipe()", desk.wipe(), lines.size());
        lines.clear();
        looked = null;
    }

    private void addAny() {
        add(new int[] {number(26), number(5), number(48), number(48)});
    }

    private void add(int[] line) {
        boolean numbered = line[0] == 1 || line[0] == 11 || line[0] >= 16 && line[0] <= 18;
        boolean bad = line[0] < 0 || line[0] > 25 || numbered && (line[1] < 0 || line[1] > 3);
        int want = bad ? -1 : lines.size() == 48 ? -2 : lines.size();
        if (want >= 0) {
            lines.add(line);
            looked = null;
        }
        refused += bad ? 1 : 0;
        full += want == -2 ? 1 : 0;
        String call = "add(" + line[0] + ", " + line[1] + ", " + line[2] + ", " + line[3] + ")";
        due(call, desk.add(line[0], line[1], line[2], line[3]), want);
    }

    private void input() {
        int lane = number(4);
        int k = number(4);
        int v = random.nextInt(9) - 4;
        boolean want = lane >= 0 && lane < 4 && k >= 0 && k < 4;
        for (int other = 0; other < 4 && want; other++) {
            if (k < 2 || other == lane) {
                inputs[other][k] = v;
            }
        }
        due("input(" + lane + ", " + k + ", " + v + ")", desk.input(lane, k, v) ? 1 : 0, want ? 1 : 0);
    }

    private void run(boolean isShort) {
        Model fresh = new Model(List.copyOf(lines), inputs);
        int want = -1;
        if (fresh.check == 0) {
            want = fresh.run(isShort);
            ran = fresh;
        }
        RUNS[want + 1]++;
        due("run(" + isShort + ")", desk.run(isShort), want);
    }

    private void ask(int kind) {
        int i = number(Math.max(1, lines.size()));
        int what = number(3);
        int lane = number(4);
        int k = number(8);
        switch (kind) {
            case 0: due("check()", desk.check(), model().check); break;
            case 1: due("place()", desk.place(), model().place); break;
            case 2: case 3: due("lanes(" + i + ", " + what + ")", desk.lanes(i, what), lanes(i, what)); break;
            case 4: due("varied(" + lane + ")", desk.varied(lane), varied(lane)); break;
            case 5: case 6: due("shorter(" + i + ", " + what + ")", desk.shorter(i, what), shorter(i, what)); break;
            case 7: case 8: due("out(" + lane + ", " + k + ")", desk.out(lane, k), out(lane, k)); break;
            case 9: case 10: due("kept(" + lane + ", " + k + ")", desk.kept(lane, k), kept(lane, k)); break;
            default: due("state(" + k + ")", desk.state(k), state(k));
        }
    }

    private int lanes(int i, int what) {
        Model model = model();
        if (i < 0 || i >= lines.size() || what < 0 || what > 2 || model.check != 0 && model.check != 4) {
            return -1;
        }
        if (what == 0) {
            return lines.get(i)[0] > 16 ? -1 : model.varied[i] ? 1 : 0;
        }
        return what == 1 ? model.apart[i] ? 1 : 0 : model.depth(i);
    }

    private int varied(int variable) {
        Model model = model();
        if (variable < 0 || variable > 3 || model.check != 0 && model.check != 4) {
            return -1;
        }
        return model.variableVaried[variable] ? 1 : 0;
    }

    private int shorter(int i, int what) {
        Model model = model();
        if (i < 0 || i >= lines.size() || what < 0 || what > 2 || model.check != 0) {
            return -1;
        }
        Integer number = model.number[i];
        if (what == 0) {
            return number != null ? 3 : model.same[i] != i ? 2 : model.needed[i] ? 1 : 0;
        }
        return what == 1 ? model.same[i] : number == null ? 0 : number;
    }

    private int out(int lane, int k) {
        boolean some = ran != null && lane >= 0 && lane < 4 && k >= 0 && k < 4;
        return some ? ran.outputs[lane][k] : 0;
    }

    private int kept(int lane, int k) {
        if (ran == null || lane < 0 || lane > 3 || k < 0 || k > 7) {
            return 0;
        }
        return k < 4 ? ran.variables[lane][k] : ran.cells[k - 4];
    }

    private int state(int what) {
        if (what < 0 || what > 4) {
            return -1;
        }
        if (ran == null) {
            return 0;
        }
        return what == 0 ? ran.steps : what == 1 ? ran.dropped : what == 2 ? ran.endOn : what == 3 ? ran.endLine : ran.rounds;
    }
}
