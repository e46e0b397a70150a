public final class LaneDesk {
    public static final int BAD = -1, FULL = -2, DONE = 0, LONG = 1;

    private static final int CONST = 0, INPUT = 1, LANE = 2, ADD = 3, SUB = 4, MUL = 5, LESS = 6, SAME = 7, BOTH = 8;
    private static final int NOT = 9, PICK = 10, GET = 11, ACROSS = 12, DOWN = 13, ANY = 14, FIRST = 15, TAKE = 16;
    private static final int PUT = 17, OUT = 18, IF = 19, ELSE = 20, END = 21, LOOP = 22, AGAIN = 23, BREAK = 24;
    private static final int DROP = 25;

    private static final int MOST_LINES = 48, MOST_BLOCKS = 49, MOST_STEPS = 400, DEEPEST = 4;
    // EACH is how many inputs, variables and outputs a lane has, and how many cells there are.
    private static final int LANES = 4, ALL_LANES = 15, EACH = 4, LANE_CELLS = 16, LINE_LANES = 192;
    private static final int SLOTS = 3, LINE_SLOTS = 144, NONE = -1;
    // Each round of a search marks something new or is the last; there are fewer things to mark than this.
    private static final int MOST_ROUNDS = 256;

    private final int[] kinds = new int[MOST_LINES];
    private final int[] firsts = new int[MOST_LINES];
    private final int[] seconds = new int[MOST_LINES];
    private final int[] thirds = new int[MOST_LINES];
    private int lines;
    private final int[] inputs = new int[LANE_CELLS];

    // What is found out about the program as a whole is kept until the program changes.
    private boolean studied;
    private int wrong;
    private int wrongAt;

    // Block 0 is the whole program; the block that line i opens is i + 1.
    private final int[] home = new int[MOST_LINES];
    private final int[] depth = new int[MOST_LINES];
    private final int[] closer = new int[MOST_BLOCKS];
    // Of ELSE and END the IF, of AGAIN the LOOP, of others the line itself.
    private final int[] mate = new int[MOST_LINES];
    private final int[] operands = new int[LINE_SLOTS];

    private final boolean[] varies = new boolean[MOST_LINES];
    private final boolean[] parted = new boolean[MOST_BLOCKS];
    private final boolean[] variableVaries = new boolean[EACH];

    private final int[] same = new int[MOST_LINES];
    private final boolean[] fixed = new boolean[MOST_LINES];
    private final int[] worth = new int[MOST_LINES];
    private final boolean[] needed = new boolean[MOST_LINES];
    private final boolean[] variableNeeded = new boolean[EACH];

    private final int[] values = new int[LINE_LANES];
    private final int[] variables = new int[LANE_CELLS];
    private final int[] outputs = new int[LANE_CELLS];
    private final int[] cells = new int[EACH];
    // For each depth, the lanes that come on again behind the IF or LOOP there, and those that wait for its ELSE.
    private final int[] whole = new int[DEEPEST];
    private final int[] waiting = new int[DEEPEST];
    private boolean brief;
    private int on;
    private int dropped;
    private int steps;
    private int nextLine;
    private int repeats;

    public LaneDesk() {
    }

    public int add(int op, int a, int b, int c) {
        if (op < CONST || op > DROP) {
            return BAD;
        }
        boolean numbered = op == INPUT || op == GET || op == TAKE || op == PUT || op == OUT;
        if (numbered && !isOneOfFour(a)) {
            return BAD;
        }
        if (lines >= MOST_LINES) {
            return FULL;
        }
        kinds[lines] = op;
        firsts[lines] = a;
        seconds[lines] = b;
        thirds[lines] = c;
        lines++;
        studied = false;
        return lines - 1;
    }

    public int wipe() {
        int before = lines;
        lines = 0;
        studied = false;
        return before;
    }

    public int check() {
        study();
        return wrong;
    }

    public int place() {
        study();
        return wrongAt;
    }

    public int lanes(int i, int what) {
        study();
        if (i < 0 || i >= lines || !isShaped()) {
            return BAD;
        }
        switch (what) {
            case 0:
                return !givesValue(i) ? BAD : varies[i] ? 1 : 0;
            case 1:
                return parted[home[i]] ? 1 : 0;
            case 2:
                return depth[i];
            default:
                return BAD;
        }
    }

    public int varied(int variable) {
        study();
        if (!isOneOfFour(variable) || !isShaped()) {
            return BAD;
        }
        return variableVaries[variable] ? 1 : 0;
    }

    public int shorter(int i, int what) {
        study();
        if (i < 0 || i >= lines || wrong != 0) {
            return BAD;
        }
        switch (what) {
            case 0:
                return fixed[i] ? 3 : same[i] != i ? 2 : needed[i] ? 1 : 0;
            case 1:
                return same[i];
            case 2:
                return worth[i];
            default:
                return BAD;
        }
    }

    public boolean input(int lane, int k, int v) {
        if (!isOneOfFour(lane) || !isOneOfFour(k)) {
            return false;
        }
        for (int other = 0; other < LANES; other++) {
            if (k < 2 || other == lane) {
                inputs[other * EACH + k] = v;
            }
        }
        return true;
    }

    public int run(boolean isShort) {
        study();
        if (wrong != 0) {
            return BAD;
        }
        clearRun();
        brief = isShort;
        int at = nextStep(0);
        for (int taken = 0; taken < MOST_STEPS && at < lines; taken++) {
            steps++;
            int behind = doLine(at);
            at = nextStep(behind);
        }
        nextLine = at;
        return at < lines ? LONG : DONE;
    }

    public int out(int lane, int k) {
        return isOneOfFour(lane) && isOneOfFour(k) ? outputs[lane * EACH + k] : 0;
    }

    public int kept(int lane, int k) {
        if (!isOneOfFour(lane)) {
            return 0;
        }
        if (isOneOfFour(k)) {
            return variables[lane * EACH + k];
        }
        return k >= EACH && k < EACH + EACH ? cells[k - EACH] : 0;
    }

    public int state(int what) {
        switch (what) {
            case 0:
                return steps;
            case 1:
                return dropped;
            case 2:
                return on;
            case 3:
                return nextLine;
            case 4:
                return repeats;
            default:
                return BAD;
        }
    }

    private static boolean isOneOfFour(int number) {
        return number >= 0 && number < EACH;
    }

    private boolean givesValue(int i) {
        return kinds[i] <= TAKE;
    }

    // A program whose only fault is of the fourth sort still has blocks and lanes to tell of.
    private boolean isShaped() {
        return wrong == 0 || wrong == 4;
    }

    private void study() {
        if (studied) {
            return;
        }
        studied = true;
        wrong = 0;
        wrongAt = NONE;
        findWrong();
        if (wrong != 0) {
            return;
        }
        findVaried();
        findWrongDifference();
        shortenLines();
        findNeeded();
    }

    private void blame(int sort, int i) {
        wrong = sort;
        wrongAt = i;
    }

    private void findWrong() {
        int block = 0;
        for (int i = 0; i < lines && wrong == 0; i++) {
            if (!fits(kinds[i], block)) {
                blame(1, i);
            } else {
                block = settle(i, block);
                int sort = wrongOperand(i);
                if (sort != 0) {
                    blame(sort, i);
                }
            }
        }
        if (wrong == 0 && block != 0) {
            blame(1, lines);
        }
        closer[0] = lines;
    }

    private boolean fits(int kind, int block) {
        int opener = block == 0 ? NONE : kinds[block - 1];
        switch (kind) {
            case IF:
            case LOOP:
                return block == 0 || depth[block - 1] + 1 < DEEPEST;
            case ELSE:
                return opener == IF;
            case END:
                return opener == IF || opener == ELSE;
            case AGAIN:
                return opener == LOOP;
            case BREAK:
                return isInLoop(block);
            default:
                return true;
        }
    }

    private boolean isInLoop(int block) {
        int inner = block;
        for (int up = 0; up < DEEPEST && inner != 0; up++) {
            if (kinds[inner - 1] == LOOP) {
                return true;
            }
            inner = home[inner - 1];
        }
        return false;
    }

    // Notes where line i stands and answers the block that the line behind it is in.
    private int settle(int i, int block) {
        int kind = kinds[i];
        if (kind == ELSE || kind == END || kind == AGAIN) {
            int opener = block - 1;
            closer[block] = i;
            home[i] = home[opener];
            depth[i] = depth[opener];
            mate[i] = mate[opener];
            return kind == ELSE ? i + 1 : home[i];
        }
        home[i] = block;
        depth[i] = block == 0 ? 0 : depth[block - 1] + 1;
        mate[i] = i;
        return kind == IF || kind == LOOP ? i + 1 : block;
    }

    private int wrongOperand(int i) {
        int sort = 0;
        for (int slot = 0; slot < SLOTS; slot++) {
            operands[i * SLOTS + slot] = NONE;
            if (hasOperand(kinds[i], slot)) {
                int x = slot == 0 ? firsts[i] : slot == 1 ? seconds[i] : thirds[i];
                if (x < 0 || x >= i || !givesValue(x)) {
                    return 2;
                }
                if (!isOpen(home[x], i)) {
                    sort = 3;
                }
                operands[i * SLOTS + slot] = x;
            }
        }
        return sort;
    }

    private static boolean hasOperand(int kind, int slot) {
        if (slot == 0) {
            return kind >= ADD && kind <= PICK || kind >= ACROSS && kind <= FIRST || kind == IF;
        }
        if (slot == 1) {
            return kind >= ADD && kind <= BOTH || kind == PICK || kind >= TAKE && kind <= OUT;
        }
        return kind == PICK;
    }

    private boolean isOpen(int block, int i) {
        int inner = home[i];
        for (int up = 0; up < DEEPEST && inner != block && inner != 0; up++) {
            inner = home[inner - 1];
        }
        return inner == block;
    }

    // Starts from nothing varied and only ever adds, so what it ends with is the least that holds.
    private void findVaried() {
        parted[0] = false;
        for (int i = 0; i < lines; i++) {
            varies[i] = false;
            parted[i + 1] = false;
        }
        for (int v = 0; v < EACH; v++) {
            variableVaries[v] = false;
        }
        boolean changed = true;
        for (int round = 0; round < MOST_ROUNDS && changed; round++) {
            changed = false;
            for (int i = 0; i < lines; i++) {
                boolean spread = givesValue(i) ? spreadValue(i) : spreadOther(i);
                changed = changed || spread;
            }
        }
    }

    private boolean spreadValue(int i) {
        if (varies[i] || !valueVaries(i)) {
            return false;
        }
        varies[i] = true;
        return true;
    }

    private boolean valueVaries(int i) {
        switch (kinds[i]) {
            case INPUT:
                return firsts[i] >= 2;
            case LANE:
            case TAKE:
                return true;
            case GET:
                return variableVaries[firsts[i]];
            case CONST:
            case ANY:
            case FIRST:
                return false;
            default:
                return operandVaries(i);
        }
    }

    private boolean operandVaries(int i) {
        for (int slot = 0; slot < SLOTS; slot++) {
            int x = operands[i * SLOTS + slot];
            if (x != NONE && varies[x]) {
                return true;
            }
        }
        return false;
    }

    private boolean spreadOther(int i) {
        switch (kinds[i]) {
            case PUT:
                return spreadPut(i);
            case IF:
            case ELSE:
                return spreadBlock(i, varies[firsts[mate[i]]]);
            case LOOP:
                return spreadBlock(i, false);
            case BREAK:
                return spreadBreak(i);
            default:
                return false;
        }
    }

    private boolean spreadPut(int i) {
        int v = firsts[i];
        if (variableVaries[v] || !varies[seconds[i]] && !parted[home[i]]) {
            return false;
        }
        variableVaries[v] = true;
        return true;
    }

    private boolean spreadBlock(int opener, boolean parts) {
        if (parted[opener + 1] || !parts && !parted[home[opener]]) {
            return false;
        }
        parted[opener + 1] = true;
        return true;
    }

    private boolean spreadBreak(int i) {
        boolean parts = false;
        int block = home[i];
        for (int up = 0; up < DEEPEST && block != 0 && kinds[block - 1] != LOOP; up++) {
            parts = parts || varies[firsts[mate[block - 1]]];
            block = home[block - 1];
        }
        return block != 0 && spreadBlock(block - 1, parts);
    }

    private void findWrongDifference() {
        for (int i = 0; i < lines && wrong == 0; i++) {
            if ((kinds[i] == ACROSS || kinds[i] == DOWN) && parted[home[i]]) {
                blame(4, i);
            }
        }
    }

    private void shortenLines() {
        for (int i = 0; i < lines; i++) {
            same[i] = i;
            fixed[i] = false;
            worth[i] = 0;
            if (kinds[i] == CONST) {
                fix(i, firsts[i]);
            } else if (kinds[i] == PICK) {
                shortenPick(i);
            } else if (kinds[i] >= ADD && kinds[i] <= NOT) {
                shortenSum(i);
            }
            if (same[i] == i) {
                same[i] = firstAlike(i);
            }
            if (fixed[same[i]]) {
                fix(i, worth[same[i]]);
            }
        }
    }

    private void fix(int i, int number) {
        fixed[i] = true;
        worth[i] = number;
    }

    private int standsFor(int i, int slot) {
        int x = operands[i * SLOTS + slot];
        return x == NONE ? NONE : same[x];
    }

    private void shortenPick(int i) {
        int test = standsFor(i, 0);
        int x = standsFor(i, 1);
        int y = standsFor(i, 2);
        if (fixed[test]) {
            same[i] = worth[test] != 0 ? x : y;
        } else if (x == y) {
            same[i] = x;
        }
    }

    private void shortenSum(int i) {
        int x = standsFor(i, 0);
        int y = kinds[i] == NOT ? x : standsFor(i, 1);
        if (fixed[x] && fixed[y]) {
            int number = result(kinds[i], worth[x], worth[y]);
            fix(i, number);
        } else if (leaves(kinds[i], y)) {
            same[i] = x;
        } else if (kinds[i] != SUB && leaves(kinds[i], x)) {
            same[i] = y;
        } else if (kinds[i] == MUL && (isFixedAt(x, 0) || isFixedAt(y, 0))) {
            fix(i, 0);
        } else if (x == y && (kinds[i] == SUB || kinds[i] == LESS)) {
            fix(i, 0);
        } else if (x == y && kinds[i] == SAME) {
            fix(i, 1);
        }
    }

    // Whether line y is a CONST that leaves what it is added to, taken from or multiplied with as it is.
    private boolean leaves(int kind, int y) {
        return kind == MUL ? isFixedAt(y, 1) : (kind == ADD || kind == SUB) && isFixedAt(y, 0);
    }

    private boolean isFixedAt(int x, int number) {
        return fixed[x] && worth[x] == number;
    }

    private static int result(int kind, int x, int y) {
        switch (kind) {
            case ADD:
                return x + y;
            case SUB:
                return x - y;
            case MUL:
                return x * y;
            case LESS:
                return x < y ? 1 : 0;
            case SAME:
                return x == y ? 1 : 0;
            case BOTH:
                return x != 0 && y != 0 ? 1 : 0;
            default:
                return x == 0 ? 1 : 0;
        }
    }

    private int firstAlike(int i) {
        boolean comparable = kinds[i] <= PICK || kinds[i] == ACROSS || kinds[i] == DOWN;
        for (int j = 0; j < i && comparable; j++) {
            if (same[j] == j && alike(i, j) && isOpen(home[j], i)) {
                return j;
            }
        }
        return i;
    }

    private boolean alike(int i, int j) {
        if (fixed[i] || fixed[j]) {
            return fixed[i] && fixed[j] && worth[i] == worth[j];
        }
        int kind = kinds[i];
        if (kind != kinds[j]) {
            return false;
        }
        if (kind == INPUT) {
            return firsts[i] == firsts[j];
        }
        int ax = standsFor(i, 0);
        int ay = standsFor(i, 1);
        int az = standsFor(i, 2);
        int bx = standsFor(j, 0);
        int by = standsFor(j, 1);
        int bz = standsFor(j, 2);
        boolean turns = kind == ADD || kind == MUL || kind == SAME || kind == BOTH;
        return ax == bx && ay == by && az == bz || turns && ax == by && ay == bx;
    }

    private void findNeeded() {
        for (int i = 0; i < lines; i++) {
            needed[i] = kinds[i] >= TAKE && kinds[i] != PUT;
        }
        for (int v = 0; v < EACH; v++) {
            variableNeeded[v] = false;
        }
        boolean changed = true;
        for (int round = 0; round < MOST_ROUNDS && changed; round++) {
            changed = false;
            for (int i = lines - 1; i >= 0; i--) {
                boolean spread = spreadNeed(i);
                changed = changed || spread;
            }
        }
    }

    private boolean spreadNeed(int i) {
        boolean changed = false;
        if (kinds[i] == PUT && variableNeeded[firsts[i]] && !needed[i]) {
            needed[i] = true;
            changed = true;
        }
        if (!needed[i]) {
            return false;
        }
        if (kinds[i] == GET && !variableNeeded[firsts[i]]) {
            variableNeeded[firsts[i]] = true;
            changed = true;
        }
        for (int slot = 0; slot < SLOTS; slot++) {
            int x = standsFor(i, slot);
            if (x != NONE && !fixed[x] && !needed[x]) {
                needed[x] = true;
                changed = true;
            }
        }
        return changed;
    }

    private void clearRun() {
        for (int i = 0; i < LINE_LANES; i++) {
            values[i] = 0;
        }
        for (int i = 0; i < LANE_CELLS; i++) {
            variables[i] = 0;
            outputs[i] = 0;
        }
        for (int i = 0; i < EACH; i++) {
            cells[i] = 0;
        }
        on = ALL_LANES;
        dropped = 0;
        steps = 0;
        repeats = 0;
    }

    // The line at or behind this one that is neither left out nor passed over.
    private int nextStep(int from) {
        int at = from;
        for (int passed = 0; passed < MOST_LINES && at < lines; passed++) {
            boolean endsPart = kinds[at] == ELSE || kinds[at] == END || kinds[at] == AGAIN;
            if (on == 0 && !endsPart) {
                at = closer[home[at]];
            } else if (brief && !needed[at]) {
                at++;
            } else {
                return at;
            }
        }
        return at;
    }

    private boolean isOn(int lane) {
        return (on >> lane & 1) != 0;
    }

    private int doLine(int at) {
        switch (kinds[at]) {
            case PUT:
                putVariable(at);
                return at + 1;
            case OUT:
                putOutput(at);
                return at + 1;
            case IF:
                return enterFirstPart(at);
            case ELSE:
                return enterSecondPart(at);
            case END:
                on = whole[depth[at]];
                return at + 1;
            case LOOP:
                whole[depth[at]] = on;
                return at + 1;
            case AGAIN:
                return endRound(at);
            case BREAK:
                leaveLoop(at);
                return at + 1;
            case DROP:
                dropped |= on;
                return at + 1;
            default:
                giveValue(at);
                return at + 1;
        }
    }

    // What an operand of a line is for a lane; a short run reads what the operand stands for instead.
    private int read(int at, int slot, int lane) {
        int x = operands[at * SLOTS + slot];
        if (x == NONE) {
            return 0;
        }
        if (brief && fixed[x]) {
            return worth[x];
        }
        int from = brief ? same[x] : x;
        return values[from * LANES + lane];
    }

    private void putVariable(int at) {
        for (int lane = 0; lane < LANES; lane++) {
            if (isOn(lane)) {
                variables[lane * EACH + firsts[at]] = read(at, 1, lane);
            }
        }
    }

    private void putOutput(int at) {
        for (int lane = 0; lane < LANES; lane++) {
            if (isOn(lane) && !isDropped(lane)) {
                outputs[lane * EACH + firsts[at]] = read(at, 1, lane);
            }
        }
    }

    private boolean isDropped(int lane) {
        return (dropped >> lane & 1) != 0;
    }

    private int enterFirstPart(int at) {
        int taking = 0;
        for (int lane = 0; lane < LANES; lane++) {
            if (isOn(lane) && read(at, 0, lane) != 0) {
                taking |= 1 << lane;
            }
        }
        whole[depth[at]] = on;
        waiting[depth[at]] = on & ~taking;
        on = taking;
        if (taking != 0) {
            return at + 1;
        }
        int end = closer[at + 1];
        if (kinds[end] == ELSE) {
            on = waiting[depth[at]];
            return end + 1;
        }
        return end;
    }

    private int enterSecondPart(int at) {
        on = waiting[depth[at]];
        return on != 0 ? at + 1 : closer[at + 1];
    }

    private int endRound(int at) {
        if (on != 0) {
            repeats++;
            return mate[at] + 1;
        }
        on = whole[depth[at]];
        return at + 1;
    }

    private void leaveLoop(int at) {
        int block = home[at];
        for (int up = 0; up < DEEPEST && block != 0 && kinds[block - 1] != LOOP; up++) {
            whole[depth[block - 1]] &= ~on;
            block = home[block - 1];
        }
        on = 0;
    }

    private void giveValue(int at) {
        for (int lane = 0; lane < LANES; lane++) {
            if (isOn(lane)) {
                values[at * LANES + lane] = valueFor(at, lane);
            }
        }
    }

    private int valueFor(int at, int lane) {
        switch (kinds[at]) {
            case CONST:
                return firsts[at];
            case INPUT:
                return inputs[lane * EACH + firsts[at]];
            case LANE:
                return lane;
            case GET:
                return variables[lane * EACH + firsts[at]];
            case PICK:
                return read(at, 0, lane) != 0 ? read(at, 1, lane) : read(at, 2, lane);
            case ACROSS:
                return read(at, 0, lane | 1) - read(at, 0, lane & 2);
            case DOWN:
                return read(at, 0, lane | 2) - read(at, 0, lane & 1);
            case ANY:
                return anyOf(at);
            case FIRST:
                return firstOf(at);
            case TAKE:
                return takeFrom(at, lane);
            default:
                int x = read(at, 0, lane);
                int y = read(at, 1, lane);
                return result(kinds[at], x, y);
        }
    }

    private int anyOf(int at) {
        for (int lane = 0; lane < LANES; lane++) {
            if (isOn(lane) && !isDropped(lane) && read(at, 0, lane) != 0) {
                return 1;
            }
        }
        return 0;
    }

    private int firstOf(int at) {
        for (int lane = 0; lane < LANES; lane++) {
            if (isOn(lane) && !isDropped(lane)) {
                return read(at, 0, lane);
            }
        }
        return 0;
    }

    private int takeFrom(int at, int lane) {
        if (isDropped(lane)) {
            return 0;
        }
        int cell = firsts[at];
        int before = cells[cell];
        cells[cell] = before + read(at, 1, lane);
        return before;
    }
}
