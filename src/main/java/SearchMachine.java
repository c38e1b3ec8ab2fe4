/** Runs small programs that choose, and finds all that can come of them. */
public final class SearchMachine {
    public static final int NONE = -1000000000;
    public static final int BAD = -1;
    public static final int FULL = -2;

    private static final int CHOOSE = 0;
    private static final int SET = 1;
    private static final int ADD = 2;
    private static final int MUL = 3;
    private static final int PICK = 4;
    private static final int LESS = 5;
    private static final int EQUAL = 6;
    private static final int DIFFER = 7;
    private static final int ONCE = 8;
    private static final int EITHER = 9;

    private static final int MAX_STEPS = 14;
    private static final int MAX_CHOOSING = 3;
    private static final int VARIABLES = 4;
    private static final int MAX_SET = 20;
    private static final int CHOOSE_SHIFT = 3;
    private static final int CHOOSE_SPAN = 13;

    // Three CHOOSE steps of 13 numbers each leave 13 * 13 * 13 ways, and no program has more.
    private static final int CELLS = 2197 * VARIABLES;

    private final int[] kinds = new int[MAX_STEPS];
    private final int[] targets = new int[MAX_STEPS];
    private final int[] operands = new int[MAX_STEPS];
    private int stepCount;

    // The ways that are still open, in the order of runs, VARIABLES cells for each.
    // Every question runs the program anew, so nothing here outlives a call.
    private final int[] cells = new int[CELLS];
    private int wayCount;

    public SearchMachine() {
        stepCount = 0;
        wayCount = 0;
    }

    public int step(int kind, int a, int bc) {
        if (!isStep(kind, a, bc)) {
            return BAD;
        }
        if (isChoosing(kind) && choosingSteps() >= MAX_CHOOSING) {
            return BAD;
        }
        if (stepCount >= MAX_STEPS) {
            return FULL;
        }
        kinds[stepCount] = kind;
        targets[stepCount] = a;
        operands[stepCount] = bc;
        stepCount++;
        return stepCount - 1;
    }

    public int drop() {
        if (stepCount == 0) {
            return BAD;
        }
        stepCount--;
        return stepCount;
    }

    public int length() {
        return stepCount;
    }

    public int answers() {
        runFirst(stepCount);
        return wayCount;
    }

    public int value(int k, int v) {
        if (!isVariable(v)) {
            return NONE;
        }
        runFirst(stepCount);
        if (k < 0 || k >= wayCount) {
            return NONE;
        }
        return cells[k * VARIABLES + v];
    }

    public int countWith(int v, int x) {
        if (!isVariable(v)) {
            return 0;
        }
        runFirst(stepCount);
        int count = 0;
        for (int way = 0; way < wayCount; way++) {
            if (cells[way * VARIABLES + v] == x) {
                count++;
            }
        }
        return count;
    }

    public int firstWith(int v, int x) {
        if (!isVariable(v)) {
            return -1;
        }
        runFirst(stepCount);
        for (int way = 0; way < wayCount; way++) {
            if (cells[way * VARIABLES + v] == x) {
                return way;
            }
        }
        return -1;
    }

    public int extreme(int v, int what) {
        if (!isVariable(v) || what < 0 || what > 1) {
            return NONE;
        }
        runFirst(stepCount);
        if (wayCount == 0) {
            return NONE;
        }
        int best = cells[v];
        for (int way = 1; way < wayCount; way++) {
            int here = cells[way * VARIABLES + v];
            if (what == 0 ? here < best : here > best) {
                best = here;
            }
        }
        return best;
    }

    public int ways(int n) {
        if (n < 0 || n > stepCount) {
            return BAD;
        }
        runFirst(n);
        return wayCount;
    }

    private static boolean isVariable(int v) {
        return v >= 0 && v < VARIABLES;
    }

    private static boolean isChoosing(int kind) {
        return kind == CHOOSE || kind == PICK || kind == EITHER;
    }

    private static boolean isStep(int kind, int a, int bc) {
        if (kind < CHOOSE || kind > EITHER) {
            return false;
        }
        if (kind == ONCE) {
            return true;
        }
        if (!isVariable(a)) {
            return false;
        }
        if (kind == CHOOSE) {
            return isRange(bc);
        }
        if (kind == SET) {
            return bc >= -MAX_SET && bc <= MAX_SET;
        }
        return isVariable(bc);
    }

    private static boolean isRange(int bc) {
        // The shift keeps the sign, so a negative bc has a negative upper part.
        int lower = bc & 15;
        int upper = bc >> 4;
        return lower < CHOOSE_SPAN && upper >= 0 && upper < CHOOSE_SPAN;
    }

    private int choosingSteps() {
        int count = 0;
        for (int place = 0; place < stepCount; place++) {
            if (isChoosing(kinds[place])) {
                count++;
            }
        }
        return count;
    }

    private void runFirst(int n) {
        for (int v = 0; v < VARIABLES; v++) {
            cells[v] = 0;
        }
        wayCount = 1;
        for (int place = 0; place < n; place++) {
            doStep(kinds[place], targets[place], operands[place]);
        }
    }

    private void doStep(int kind, int a, int b) {
        switch (kind) {
            case CHOOSE:
                choose(a, b);
                break;
            case PICK:
                pick(a, b);
                break;
            case EITHER:
                growEither(a, b);
                break;
            case ONCE:
                keepFirst();
                break;
            case LESS:
            case EQUAL:
            case DIFFER:
                keepHolding(kind, a, b);
                break;
            default:
                compute(kind, a, b);
                break;
        }
    }

    private void choose(int a, int bc) {
        int lowest = (bc & 15) - CHOOSE_SHIFT;
        int highest = (bc >> 4) - CHOOSE_SHIFT;
        int numbers = highest - lowest + 1;
        if (numbers < 1) {
            wayCount = 0;
            return;
        }
        split(numbers);
        for (int way = 0; way < wayCount; way++) {
            cells[way * VARIABLES + a] = lowest + way % numbers;
        }
    }

    private void pick(int a, int b) {
        split(2);
        for (int way = 0; way < wayCount; way += 2) {
            cells[way * VARIABLES + a] = cells[way * VARIABLES + b];
        }
    }

    private void growEither(int a, int b) {
        split(2);
        for (int way = 0; way < wayCount; way++) {
            int grown = way % 2 == 0 ? a : b;
            cells[way * VARIABLES + grown]++;
        }
    }

    private void split(int copies) {
        // The copies of a way stand together in its place, so that earlier decisions count for more.
        // From the last to the first: a copy never lands on a way that is still to be copied.
        for (int way = wayCount - 1; way >= 0; way--) {
            for (int copy = copies - 1; copy >= 0; copy--) {
                int to = way * copies + copy;
                for (int v = 0; v < VARIABLES; v++) {
                    cells[to * VARIABLES + v] = cells[way * VARIABLES + v];
                }
            }
        }
        wayCount = wayCount * copies;
    }

    private void keepFirst() {
        if (wayCount > 1) {
            wayCount = 1;
        }
    }

    private void keepHolding(int kind, int a, int b) {
        int kept = 0;
        for (int way = 0; way < wayCount; way++) {
            int left = cells[way * VARIABLES + a];
            int right = cells[way * VARIABLES + b];
            if (holds(kind, left, right)) {
                copyWay(way, kept);
                kept++;
            }
        }
        wayCount = kept;
    }

    private void copyWay(int from, int to) {
        for (int v = 0; v < VARIABLES; v++) {
            cells[to * VARIABLES + v] = cells[from * VARIABLES + v];
        }
    }

    private static boolean holds(int kind, int left, int right) {
        if (kind == LESS) {
            return left < right;
        }
        return kind == EQUAL ? left == right : left != right;
    }

    private void compute(int kind, int a, int b) {
        for (int way = 0; way < wayCount; way++) {
            int target = way * VARIABLES + a;
            if (kind == SET) {
                cells[target] = b;
            } else if (kind == ADD) {
                cells[target] += cells[way * VARIABLES + b];
            } else if (kind == MUL) {
                cells[target] *= cells[way * VARIABLES + b];
            }
        }
    }
}
