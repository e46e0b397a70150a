import java.util.ArrayList;
import java.util.HashSet;
import java.util.List;
import java.util.Set;

/** The document a second time, written as differently from LaneDesk as it goes: block paths, sets and recursion. */
final class Model {
    private static final int IF = 19, ELSE = 20, END = 21, LOOP = 22, AGAIN = 23, BREAK = 24;

    private static final class Stop extends RuntimeException {
        private static final long serialVersionUID = 1L;
    }

    final List<int[]> program;
    final int[][] inputs;
    int check;
    int place = -1;

    /** The blocks around each line, outermost first; each block has a number of its own. */
    private final List<List<Integer>> paths = new ArrayList<>();
    private final int[] ifOfPart;
    private final int[] loopOfBlock;
    private final int[] elseOf;
    private final int[] endOf;

    final boolean[] varied;
    final boolean[] apart;
    final boolean[] variableVaried = new boolean[4];
    final int[] same;
    final Integer[] number;
    final boolean[] needed;

    int steps;
    int dropped;
    int endOn;
    int endLine;
    int rounds;
    int[][] values;
    int[][] variables = new int[4][4];
    int[][] outputs = new int[4][4];
    int[] cells = new int[4];
    boolean brief;
    final List<String> unsound = new ArrayList<>();

    Model(List<int[]> program, int[][] inputs) {
        this.program = program;
        this.inputs = inputs;
        int n = program.size();
        ifOfPart = new int[2 * n + 2];
        loopOfBlock = new int[2 * n + 2];
        elseOf = new int[n];
        endOf = new int[n];
        varied = new boolean[n];
        apart = new boolean[n];
        same = new int[n];
        number = new Integer[n];
        needed = new boolean[n];
        readShape();
        if (check == 0) {
            findVaried();
            for (int i = 0; i < n && check == 0; i++) {
                if ((op(i) == 12 || op(i) == 13) && apart[i]) {
                    check = 4;
                    place = i;
                }
            }
        }
        if (check == 0) {
            shorten();
            findNeeded();
        }
    }

    private int op(int i) {
        return program.get(i)[0];
    }

    List<Integer> operands(int i) {
        int[] line = program.get(i);
        List<Integer> found = new ArrayList<>();
        switch (line[0]) {
            case 3: case 4: case 5: case 6: case 7: case 8:
                found.add(line[1]);
                found.add(line[2]);
                break;
            case 9: case 12: case 13: case 14: case 15: case 19:
                found.add(line[1]);
                break;
            case 10:
                found.add(line[1]);
                found.add(line[2]);
                found.add(line[3]);
                break;
            case 16: case 17: case 18:
                found.add(line[2]);
                break;
            default:
        }
        return found;
    }

    private void wrongAt(int sort, int i) {
        if (check == 0) {
            check = sort;
            place = i;
        }
    }

    int depth(int i) {
        return paths.get(i).size() - 1;
    }

    private void readShape() {
        List<Integer> path = new ArrayList<>(List.of(0));
        List<Integer> openers = new ArrayList<>();
        int blocks = 1;
        ifOfPart[0] = -1;
        loopOfBlock[0] = -1;
        for (int i = 0; i < program.size() && check == 0; i++) {
            int kind = op(i);
            int top = openers.isEmpty() ? -1 : openers.get(openers.size() - 1);
            boolean inIf = top >= 0 && op(top) == IF;
            boolean inLoop = top >= 0 && op(top) == LOOP;
            boolean someLoop = openers.stream().anyMatch(o -> op(o) == LOOP);
            if (kind == ELSE && (!inIf || elseOf[top] != 0) || kind == END && !inIf || kind == AGAIN && !inLoop
                    || kind == BREAK && !someLoop || (kind == IF || kind == LOOP) && openers.size() == 4) {
                wrongAt(1, i);
                return;
            }
            if (kind == ELSE || kind == END || kind == AGAIN) {
                path.remove(path.size() - 1);
            }
            paths.add(List.copyOf(path));
            for (int x : operands(i)) {
                if (x < 0 || x >= i || op(x) > 16) {
                    wrongAt(2, i);
                }
            }
            for (int x : operands(i)) {
                if (check == 0 && !isPrefix(paths.get(x), paths.get(i))) {
                    wrongAt(3, i);
                }
            }
            if (kind == IF || kind == LOOP) {
                openers.add(i);
                top = i;
            } else if (kind == ELSE) {
                elseOf[top] = i;
            } else if (kind == END || kind == AGAIN) {
                endOf[top] = i;
                openers.remove(openers.size() - 1);
            }
            if (kind == IF || kind == ELSE || kind == LOOP) {
                ifOfPart[blocks] = kind == LOOP ? -1 : top;
                loopOfBlock[blocks] = kind == LOOP ? i : -1;
                path.add(blocks++);
            }
        }
        if (!openers.isEmpty()) {
            wrongAt(1, program.size());
        }
    }

    private static boolean isPrefix(List<Integer> outer, List<Integer> inner) {
        return outer.size() <= inner.size() && inner.subList(0, outer.size()).equals(outer);
    }

    private void findVaried() {
        int n = program.size();
        // As many rounds as there could be marks, without looking whether something changed.
        for (int round = 0; round < 2 * n + 6; round++) {
            Set<Integer> apartBlocks = new HashSet<>();
            for (int i = 0; i < n; i++) {
                for (int block : paths.get(i)) {
                    if (ifOfPart[block] >= 0 && varied[program.get(ifOfPart[block])[1]]) {
                        apartBlocks.add(block);
                    }
                }
                if (op(i) == BREAK) {
                    List<Integer> path = paths.get(i);
                    int loop = path.size() - 1;
                    boolean split = false;
                    while (loopOfBlock[path.get(loop)] < 0) {
                        split |= varied[program.get(ifOfPart[path.get(loop)])[1]];
                        loop--;
                    }
                    if (split) {
                        apartBlocks.add(path.get(loop));
                    }
                }
            }
            for (int i = 0; i < n; i++) {
                int[] line = program.get(i);
                apart[i] = paths.get(i).stream().anyMatch(apartBlocks::contains);
                boolean some = operands(i).stream().anyMatch(x -> varied[x]);
                int kind = line[0];
                varied[i] = kind == 1 && line[1] >= 2 || kind == 2 || kind == 16
                        || kind == 11 && variableVaried[line[1]]
                        || some && (kind >= 3 && kind <= 10 || kind == 12 || kind == 13);
                if (kind == 17 && (some || apart[i])) {
                    variableVaried[line[1]] = true;
                }
            }
        }
    }

    static int plain(int kind, int x, int y) {
        switch (kind) {
            case 3: return x + y;
            case 4: return x - y;
            case 5: return x * y;
            case 6: return Integer.compare(x, y) < 0 ? 1 : 0;
            case 7: return x == y ? 1 : 0;
            case 8: return x == 0 || y == 0 ? 0 : 1;
            default: return x == 0 ? 1 : 0;
        }
    }

    private boolean is(int x, int wanted) {
        return number[x] != null && number[x] == wanted;
    }

    private void shorten() {
        List<String> keys = new ArrayList<>();
        for (int i = 0; i < program.size(); i++) {
            same[i] = i;
            String key = op(i) > 16 ? null : keyOf(i);
            if (key != null && same[i] == i) {
                for (int j = 0; j < i; j++) {
                    if (same[j] == j && key.equals(keys.get(j)) && isPrefix(paths.get(j), paths.get(i))) {
                        same[i] = j;
                        break;
                    }
                }
            }
            number[i] = same[i] == i ? number[i] : number[same[i]];
            keys.add(key);
        }
    }

    /** What two lines must have in common to be the same; null for lines that never are. */
    private String keyOf(int i) {
        int[] line = program.get(i);
        int kind = line[0];
        List<Integer> xs = new ArrayList<>();
        for (int x : operands(i)) {
            xs.add(same[x]);
        }
        int x = xs.isEmpty() ? -1 : xs.get(0);
        int y = xs.size() < 2 ? x : xs.get(1);
        if (kind == 0) {
            number[i] = line[1];
        } else if (kind == 10) {
            if (number[x] != null) {
                same[i] = number[x] != 0 ? y : xs.get(2);
            } else if (y == xs.get(2)) {
                same[i] = y;
            }
        } else if (kind >= 3 && kind <= 9) {
            if (number[x] != null && number[y] != null) {
                number[i] = plain(kind, number[x], number[y]);
            } else if (kind == 3 && is(x, 0) || kind == 5 && is(x, 1)) {
                same[i] = y;
            } else if ((kind == 3 || kind == 4) && is(y, 0) || kind == 5 && is(y, 1)) {
                same[i] = x;
            } else if (kind == 5 && (is(x, 0) || is(y, 0)) || (kind == 4 || kind == 6) && x == y) {
                number[i] = 0;
            } else if (kind == 7 && x == y) {
                number[i] = 1;
            }
        }
        if (number[i] != null) {
            return "number " + number[i];
        }
        if (kind == 1) {
            return "input " + line[1];
        }
        if (kind == 3 || kind == 5 || kind == 7 || kind == 8) {
            return kind + " of " + Math.min(x, y) + " and " + Math.max(x, y);
        }
        return kind == 11 || kind > 13 ? null : kind + " of " + xs;
    }

    private void findNeeded() {
        int n = program.size();
        for (int round = 0; round <= 2 * n; round++) {
            for (int i = 0; i < n; i++) {
                int kind = op(i);
                int variable = program.get(i)[1];
                boolean got = false;
                for (int j = 0; j < n && kind == 17; j++) {
                    got |= op(j) == 11 && program.get(j)[1] == variable && needed[j];
                }
                if (kind == 16 || kind > 17 || got) {
                    needed[i] = true;
                }
                if (needed[i]) {
                    for (int x : operands(i)) {
                        if (number[same[x]] == null) {
                            needed[same[x]] = true;
                        }
                    }
                }
            }
        }
    }

    /** 0 DONE, 1 LONG. */
    int run(boolean isShort) {
        int n = program.size();
        brief = isShort;
        steps = 0;
        dropped = 0;
        rounds = 0;
        values = new int[n][4];
        variables = new int[4][4];
        outputs = new int[4][4];
        cells = new int[4];
        try {
            endOn = perform(0, n, 15);
            endLine = n;
            return 0;
        } catch (Stop stop) {
            return 1;
        }
    }

    private void step(int i, int on) {
        if (steps == 400) {
            endOn = on;
            endLine = i;
            throw new Stop();
        }
        steps++;
    }

    private int value(int x, int lane) {
        if (brief && number[x] != null) {
            return number[x];
        }
        return values[brief ? same[x] : x][lane];
    }

    /** Performs the lines of a block with these lanes and answers those that are still ON at its end. */
    private int perform(int from, int to, int on) {
        int i = from;
        while (i < to && on != 0) {
            if (brief && !needed[i]) {
                i++;
                continue;
            }
            step(i, on);
            if (!apart[i] && on != 15) {
                unsound.add("line " + i + " is together, but only " + on + " are ON");
            }
            switch (op(i)) {
                case IF:
                    on = performIf(i, on);
                    i = endOf[i];
                    break;
                case LOOP:
                    int in = on;
                    do {
                        in = perform(i + 1, endOf[i], in);
                        step(endOf[i], in);
                        rounds += in != 0 ? 1 : 0;
                    } while (in != 0);
                    i = endOf[i];
                    break;
                case BREAK:
                    return 0;
                default:
                    simple(i, on);
            }
            i++;
        }
        return on;
    }

    private int performIf(int i, int on) {
        int yes = 0;
        for (int lane = 0; lane < 4; lane++) {
            if ((on & 1 << lane) != 0 && value(program.get(i)[1], lane) != 0) {
                yes |= 1 << lane;
            }
        }
        int no = on - yes;
        int middle = elseOf[i];
        int end = endOf[i];
        int last = yes;
        int left = 0;
        if (yes != 0) {
            last = perform(i + 1, middle != 0 ? middle : end, yes);
            left = last;
            if (middle != 0) {
                step(middle, last);
            }
        }
        if (middle == 0) {
            left |= no;
        } else {
            last = perform(middle + 1, end, no);
            left |= last;
        }
        step(end, last);
        return left;
    }

    private void simple(int i, int on) {
        int[] line = program.get(i);
        int live = on & ~dropped;
        int first = Integer.numberOfTrailingZeros(live);
        Set<Integer> seen = new HashSet<>();
        if (line[0] == 25) {
            dropped |= on;
            return;
        }
        for (int lane = 0; lane < 4; lane++) {
            if ((on & 1 << lane) == 0) {
                continue;
            }
            boolean alive = (live & 1 << lane) != 0;
            int given = 0;
            switch (line[0]) {
                case 0: given = line[1]; break;
                case 1: given = inputs[lane][line[1]]; break;
                case 2: given = lane; break;
                case 10: given = value(line[1], lane) != 0 ? value(line[2], lane) : value(line[3], lane); break;
                case 11: given = variables[lane][line[1]]; break;
                case 12: given = lane < 2 ? value(line[1], 1) - value(line[1], 0) : value(line[1], 3) - value(line[1], 2); break;
                case 13: given = lane % 2 == 0 ? value(line[1], 2) - value(line[1], 0) : value(line[1], 3) - value(line[1], 1); break;
                case 14:
                    for (int other = 0; other < 4; other++) {
                        given |= (live & 1 << other) != 0 && value(line[1], other) != 0 ? 1 : 0;
                    }
                    break;
                case 15: given = live == 0 ? 0 : value(line[1], first); break;
                case 16:
                    if (alive) {
                        given = cells[line[1]];
                        cells[line[1]] += value(line[2], lane);
                    }
                    break;
                case 17: variables[lane][line[1]] = value(line[2], lane); break;
                case 18:
                    if (alive) {
                        outputs[lane][line[1]] = value(line[2], lane);
                    }
                    break;
                default: given = plain(line[0], value(line[1], lane), line[0] == 9 ? 0 : value(line[2], lane));
            }
            values[i][lane] = given;
            seen.add(given);
        }
        if (line[0] <= 16 && !varied[i] && seen.size() > 1) {
            unsound.add("line " + i + " is not varied, but gives " + seen);
        }
    }
}
