/*
 * What a path selects depends on nothing but the node it starts from. So every path, and every
 * COUNT, SUM and FIRST, is worked out for all nodes at once, from the last token to the first:
 * what a token needs stands behind it and is known by then. This is what takes recursion's place.
 *
 * A set of nodes is an int with bit k for node k; walking the bits upwards is the document's order.
 */
public final class TemplateProcessor {
    public static final int OK = 0, LONG = 1, DEEP = 2, SYNTAX = 3, BAD = -1;

    private static final int NODES = 24, NAMES = 6, RULES = 6, DRAFT_TOKENS = 30;
    private static final int STEPS_ALLOWED = 150, LISTS_ALLOWED = 12, OUTPUTS_KEPT = 60;
    private static final long NO_SUCH_NODE = -9223372036854775808L, NO_NUMBER = NO_SUCH_NODE + 1;

    private static final int NUM = 0, POS = 1, LAST = 2, OWN = 3, COUNT = 4, SUM = 5, FIRST = 6;
    private static final int ADD = 7, SUB = 8, MUL = 9, LESS = 10, SAME = 11, AND = 12, OR = 13;
    private static final int NOT = 14, STEP = 15, OPEN = 16, CLOSE = 17;
    private static final int TEXT = 20, ELEMENT = 21, VALUE = 22, APPLY = 23, IF = 24, EACH = 25;
    private static final int END = 26;
    /** No kind of the document: it fills the cells behind the tokens, so that a body's end is seen. */
    private static final int STOP = 27;

    private static final int SELF = 0, CHILD = 1, PARENT = 2, DESCENDANT = 3, ANCESTOR = 4, NEXT = 5;
    private static final int BEFORE = 6, BEHIND = 7, AHEAD = 8, AXES = 9;
    private static final int ALL = 6, TESTS = 7, STEP_BASE = 8;
    private static final int ELEMENT_BEGIN = 1000000, ELEMENT_END = 2000000;

    /** Each rule and, behind them, the draft has a slot of cells; a slot's last cells are STOPs. */
    private static final int SLOT = 32, DRAFT = 192, CELLS = 224;
    /** A cell that is always a STOP: from there the innermost list goes on. */
    private static final int IDLE = 223;
    private static final int AXIS_ENTRIES = 216, TABLE_ENTRIES = 5376;

    private static final int WANT_NUMBER = 0, WANT_PATH = 1, WANT_MORE_PATH = 2, WANT_CLOSE = 3;
    private static final int WANT_BODY = 4, WANT_END = 5, WANT_NOTHING = 6;
    /** More than 30 tokens can want: each takes one want away and brings at most four. */
    private static final int WANTS = 128;

    /** In place of a body's cell: the nodes of the list are handled by rules. */
    private static final int BY_RULES = -1;
    /** No transformation comes near it: 150 steps of at most 31 tokens each, and their lists' ends. */
    private static final int TURNS = 1000000;

    private final int[] names = new int[NODES];
    private final int[] values = new int[NODES];
    private final int[] parents = new int[NODES];
    private int nodeCount;
    private int innermost;

    private final int[] kinds = new int[CELLS];
    private final int[] operands = new int[CELLS];
    private int draftLength;
    private final int[] priorities = new int[RULES];
    private final int[] givenAt = new int[RULES];
    private int rulesGiven;
    private int wrongToken;

    private final int[] wanted = new int[WANTS];
    private int wantedCount;
    private boolean inCondition;

    private final int[] axes = new int[AXIS_ENTRIES];
    private final int[] passing = new int[TESTS];
    /** For a token: the cell behind what it begins; for a STEP that is the rest of its path. */
    private final int[] ends = new int[CELLS];
    /** For an END: the token whose body it ends. */
    private final int[] openers = new int[CELLS];
    /** For a STEP and a node: what the path from there on selects; for COUNT, SUM, FIRST: its number. */
    private final int[] table = new int[TABLE_ENTRIES];
    private final int[] results = new int[CELLS];
    private final int[] matched = new int[RULES];

    private final int[] listLeft = new int[LISTS_ALLOWED];
    private final int[] listNode = new int[LISTS_ALLOWED];
    private final int[] listPosition = new int[LISTS_ALLOWED];
    private final int[] listSize = new int[LISTS_ALLOWED];
    private final int[] listBody = new int[LISTS_ALLOWED];
    private final int[] listReturn = new int[LISTS_ALLOWED];
    private int depth;
    private int cursor;
    private int outcome;
    private final int[] outputs = new int[OUTPUTS_KEPT];
    private int outputCount;
    private int stepsTaken;

    public TemplateProcessor() {
        innermost = -1;
        wrongToken = -1;
        for (int cell = 0; cell < CELLS; cell++) {
            kinds[cell] = STOP;
        }
    }

    public int open(int name, int value) {
        boolean closed = nodeCount > 0 && innermost < 0;
        if (!isName(name) || nodeCount >= NODES || closed) {
            return BAD;
        }
        names[nodeCount] = name;
        values[nodeCount] = value;
        parents[nodeCount] = innermost;
        innermost = nodeCount;
        nodeCount++;
        return innermost;
    }

    public int close() {
        if (innermost < 0) {
            return BAD;
        }
        int ended = innermost;
        innermost = parents[ended];
        return ended;
    }

    public int clear() {
        int taken = nodeCount;
        nodeCount = 0;
        innermost = -1;
        return taken;
    }

    public boolean relabel(int node, int name, int value) {
        if (!isNode(node) || !isName(name)) {
            return false;
        }
        names[node] = name;
        values[node] = value;
        return true;
    }

    public boolean token(int kind, int value) {
        if (draftLength >= DRAFT_TOKENS || !isToken(kind, value)) {
            return false;
        }
        kinds[DRAFT + draftLength] = kind;
        operands[DRAFT + draftLength] = value;
        draftLength++;
        return true;
    }

    public int wipe() {
        int removed = draftLength;
        emptySlot(DRAFT);
        draftLength = 0;
        return removed;
    }

    public int rule(int r, int priority) {
        if (!isRule(r)) {
            return BAD;
        }
        boolean allowed = draftIs(WANT_PATH, WANT_BODY);
        if (allowed) {
            copyDraft(r * SLOT);
            priorities[r] = priority;
            givenAt[r] = rulesGiven;
            rulesGiven++;
        }
        emptySlot(DRAFT);
        draftLength = 0;
        return allowed ? OK : SYNTAX;
    }

    public int place() {
        return wrongToken;
    }

    public boolean drop(int r) {
        if (!isRule(r)) {
            return false;
        }
        boolean present = kinds[r * SLOT] != STOP;
        emptySlot(r * SLOT);
        return present;
    }

    public int select(int node) {
        if (!isNode(node)) {
            return BAD;
        }
        if (!draftIs(WANT_PATH, WANT_NOTHING)) {
            return -SYNTAX;
        }
        tabulate(DRAFT, CELLS);
        return table[DRAFT * NODES + node];
    }

    public long number(int node) {
        if (!isNode(node)) {
            return NO_SUCH_NODE;
        }
        if (!draftIs(WANT_NUMBER, WANT_NOTHING)) {
            return NO_NUMBER;
        }
        tabulate(DRAFT, CELLS);
        return numberAt(DRAFT, node, 1, 1);
    }

    public int ruleFor(int node) {
        if (!isNode(node)) {
            return BAD - 1;
        }
        tabulate(0, DRAFT);
        matchRules();
        return bestRule(node);
    }

    public int transform() {
        outputCount = 0;
        stepsTaken = 0;
        if (nodeCount == 0) {
            return BAD;
        }
        tabulate(0, DRAFT);
        matchRules();
        depth = 0;
        outcome = OK;
        beginList(1, BY_RULES, IDLE);
        for (int turn = 0; turn < TURNS && depth > 0 && outcome == OK; turn++) {
            execute();
        }
        return outcome;
    }

    public int size() {
        return outputCount;
    }

    public int output(int k) {
        if (k < 0 || k >= OUTPUTS_KEPT || k >= outputCount) {
            return 0;
        }
        return outputs[k];
    }

    public int steps() {
        return stepsTaken;
    }

    private boolean isNode(int node) {
        return node >= 0 && node < nodeCount;
    }

    private boolean isName(int name) {
        return name >= 0 && name < NAMES;
    }

    private boolean isRule(int r) {
        return r >= 0 && r < RULES;
    }

    private boolean isToken(int kind, int value) {
        if (kind == STEP) {
            return value >= 0 && value / STEP_BASE < AXES && value % STEP_BASE < TESTS;
        }
        if (kind == ELEMENT) {
            return isName(value);
        }
        return kind >= NUM && kind <= CLOSE || kind >= TEXT && kind <= END;
    }

    private void emptySlot(int start) {
        for (int cell = 0; cell < SLOT; cell++) {
            kinds[start + cell] = STOP;
        }
    }

    private void copyDraft(int start) {
        for (int cell = 0; cell < SLOT; cell++) {
            kinds[start + cell] = kinds[DRAFT + cell];
            operands[start + cell] = operands[DRAFT + cell];
        }
    }

    // The grammar. What is still wanted is a stack; what stands on it can always be completed,
    // so the first token that the stack does not take is the one that place asks for.

    private void want(int what) {
        if (wantedCount < WANTS) {
            wanted[wantedCount] = what;
            wantedCount++;
        }
    }

    private boolean draftIs(int first, int second) {
        inCondition = false;
        wantedCount = 0;
        want(second);
        want(first);
        for (int index = 0; index < draftLength; index++) {
            if (!takes(kinds[DRAFT + index])) {
                wrongToken = index;
                return false;
            }
        }
        for (int left = 0; left < wantedCount; left++) {
            if (!mayStayOut(wanted[left])) {
                wrongToken = draftLength;
                return false;
            }
        }
        return true;
    }

    private boolean mayStayOut(int what) {
        return what == WANT_MORE_PATH || what == WANT_BODY || what == WANT_NOTHING;
    }

    private boolean takes(int kind) {
        for (int turn = 0; turn < WANTS && wantedCount > 0; turn++) {
            wantedCount--;
            int what = wanted[wantedCount];
            if (what == WANT_NUMBER) {
                return takesNumber(kind);
            } else if (what == WANT_PATH) {
                return takesStep(kind);
            } else if (what == WANT_CLOSE) {
                inCondition = false;
                return kind == CLOSE;
            } else if (what == WANT_END) {
                return kind == END;
            } else if (what == WANT_MORE_PATH && takesMorePath(kind)) {
                return true;
            } else if (what == WANT_BODY && takesBody(kind)) {
                return true;
            }
        }
        return false;
    }

    private boolean takesNumber(int kind) {
        if (kind < NUM || kind > NOT) {
            return false;
        }
        if (kind >= COUNT && kind <= FIRST) {
            want(WANT_PATH);
        } else if (kind >= ADD) {
            want(WANT_NUMBER);
            if (kind != NOT) {
                want(WANT_NUMBER);
            }
        }
        return true;
    }

    private boolean takesStep(int kind) {
        if (kind != STEP) {
            return false;
        }
        want(WANT_MORE_PATH);
        return true;
    }

    private boolean takesMorePath(int kind) {
        if (kind == OPEN && !inCondition) {
            inCondition = true;
            want(WANT_MORE_PATH);
            want(WANT_CLOSE);
            want(WANT_NUMBER);
            return true;
        }
        return takesStep(kind);
    }

    private boolean takesBody(int kind) {
        if (kind < TEXT || kind >= END) {
            return false;
        }
        want(WANT_BODY);
        if (kind == ELEMENT || kind == IF || kind == EACH) {
            want(WANT_END);
            want(WANT_BODY);
        }
        if (kind == VALUE || kind == IF) {
            want(WANT_NUMBER);
        } else if (kind == APPLY || kind == EACH) {
            want(WANT_PATH);
        }
        return true;
    }

    // The table of what the tokens of allowed drafts come to, for the document as it is now.

    private void tabulate(int from, int to) {
        relateNodes();
        for (int cell = to - 1; cell >= from; cell--) {
            int kind = kinds[cell];
            ends[cell] = endOf(cell);
            if (kind == STEP) {
                tabulateStep(cell);
            } else if (kind >= COUNT && kind <= FIRST) {
                tabulateMeasure(cell);
            } else if (kind == ELEMENT || kind == IF || kind == EACH) {
                openers[ends[cell] - 1] = cell;
            }
        }
    }

    private int endOf(int cell) {
        switch (kinds[cell]) {
            case COUNT: case SUM: case FIRST: case NOT: case VALUE: case APPLY:
                return ends[cell + 1];
            case ADD: case SUB: case MUL: case LESS: case SAME: case AND: case OR:
                return ends[ends[cell + 1]];
            case OPEN:
                return ends[cell + 1] + 1;
            case STEP:
                int next = behindConditions(cell);
                return kinds[next] == STEP ? ends[next] : next;
            case ELEMENT:
                return behindBody(cell + 1);
            case IF: case EACH:
                return behindBody(ends[cell + 1]);
            default:
                return cell + 1;
        }
    }

    private int behindConditions(int step) {
        int cell = step + 1;
        for (int turn = 0; turn < SLOT && kinds[cell] == OPEN; turn++) {
            cell = ends[cell];
        }
        return cell;
    }

    private int behindBody(int first) {
        int cell = first;
        for (int turn = 0; turn < SLOT && kinds[cell] != END; turn++) {
            cell = ends[cell];
        }
        return cell + 1;
    }

    private void relateNodes() {
        for (int test = 0; test < TESTS; test++) {
            passing[test] = 0;
        }
        for (int node = 0; node < nodeCount; node++) {
            int bit = 1 << node;
            passing[names[node]] |= bit;
            passing[ALL] |= bit;
            axes[SELF * NODES + node] = bit;
            axes[CHILD * NODES + node] = 0;
            axes[DESCENDANT * NODES + node] = 0;
            relateUpwards(node);
        }
        for (int node = nodeCount - 1; node >= 0; node--) {
            relateDownwards(node);
        }
        for (int node = 0; node < nodeCount; node++) {
            relateSideways(node);
        }
    }

    private void relateUpwards(int node) {
        int parent = parents[node];
        int above = parent < 0 ? 0 : 1 << parent;
        axes[PARENT * NODES + node] = above;
        axes[ANCESTOR * NODES + node] = parent < 0 ? 0 : above | axes[ANCESTOR * NODES + parent];
    }

    private void relateDownwards(int node) {
        int parent = parents[node];
        if (parent >= 0) {
            axes[CHILD * NODES + parent] |= 1 << node;
            axes[DESCENDANT * NODES + parent] |= 1 << node | axes[DESCENDANT * NODES + node];
        }
    }

    private void relateSideways(int node) {
        int parent = parents[node];
        int siblings = parent < 0 ? 0 : axes[CHILD * NODES + parent];
        int earlier = (1 << node) - 1;
        int later = passing[ALL] & ~earlier & ~(1 << node);
        axes[NEXT * NODES + node] = siblings & later;
        axes[BEFORE * NODES + node] = siblings & earlier;
        axes[BEHIND * NODES + node] = later & ~axes[DESCENDANT * NODES + node];
        axes[AHEAD * NODES + node] = earlier & ~axes[ANCESTOR * NODES + node];
    }

    private void tabulateStep(int cell) {
        int axis = operands[cell] / STEP_BASE;
        int test = operands[cell] % STEP_BASE;
        boolean backwards = axis == PARENT || axis == ANCESTOR || axis == BEFORE || axis == AHEAD;
        for (int node = 0; node < nodeCount; node++) {
            int list = axes[axis * NODES + node] & passing[test];
            int next = cell + 1;
            for (int turn = 0; turn < SLOT && kinds[next] == OPEN; turn++) {
                list = thoseMeeting(next + 1, list, backwards);
                next = ends[next];
            }
            table[cell * NODES + node] = kinds[next] == STEP ? selectedFrom(next, list) : list;
        }
    }

    private int thoseMeeting(int condition, int list, boolean backwards) {
        int length = nodesIn(list);
        int position = 0;
        int kept = 0;
        for (int turn = 0; turn < NODES; turn++) {
            int node = backwards ? NODES - 1 - turn : turn;
            if ((list >> node & 1) != 0) {
                position++;
                if (numberAt(condition, node, position, length) != 0) {
                    kept |= 1 << node;
                }
            }
        }
        return kept;
    }

    private int selectedFrom(int step, int list) {
        int selected = 0;
        for (int node = 0; node < nodeCount; node++) {
            if ((list >> node & 1) != 0) {
                selected |= table[step * NODES + node];
            }
        }
        return selected;
    }

    private void tabulateMeasure(int cell) {
        int kind = kinds[cell];
        for (int node = 0; node < nodeCount; node++) {
            int selected = table[(cell + 1) * NODES + node];
            int measure = 0;
            if (kind == COUNT) {
                measure = nodesIn(selected);
            } else if (kind == SUM) {
                measure = sumOf(selected);
            } else if (selected != 0) {
                measure = values[firstOf(selected)];
            }
            table[cell * NODES + node] = measure;
        }
    }

    private int nodesIn(int set) {
        int found = 0;
        for (int node = 0; node < NODES; node++) {
            found += set >> node & 1;
        }
        return found;
    }

    private int sumOf(int set) {
        int sum = 0;
        for (int node = 0; node < nodeCount; node++) {
            if ((set >> node & 1) != 0) {
                sum += values[node];
            }
        }
        return sum;
    }

    private int firstOf(int set) {
        int node = 0;
        while (node < NODES - 1 && (set >> node & 1) == 0) {
            node++;
        }
        return node;
    }

    /** Conditions inside are passed over too: nothing looks at those results, and skipping is no gain. */
    private int numberAt(int cell, int node, int position, int length) {
        for (int at = ends[cell] - 1; at >= cell; at--) {
            results[at] = resultAt(at, node, position, length);
        }
        return results[cell];
    }

    private int resultAt(int at, int node, int position, int length) {
        int kind = kinds[at];
        switch (kind) {
            case NUM: return operands[at];
            case POS: return position;
            case LAST: return length;
            case OWN: return values[node];
            case COUNT: case SUM: case FIRST: return table[at * NODES + node];
            case NOT: return results[at + 1] == 0 ? 1 : 0;
            default: break;
        }
        if (kind < ADD || kind > OR) {
            return 0;
        }
        int left = results[at + 1];
        int right = results[ends[at + 1]];
        switch (kind) {
            case ADD: return left + right;
            case SUB: return left - right;
            case MUL: return left * right;
            case LESS: return left < right ? 1 : 0;
            case SAME: return left == right ? 1 : 0;
            case AND: return left != 0 && right != 0 ? 1 : 0;
            default: return left != 0 || right != 0 ? 1 : 0;
        }
    }

    // Rules and the transformation.

    private void matchRules() {
        for (int r = 0; r < RULES; r++) {
            int pattern = r * SLOT;
            matched[r] = 0;
            for (int node = 0; node < nodeCount && kinds[pattern] == STEP; node++) {
                int within = axes[DESCENDANT * NODES + node] | 1 << node;
                matched[r] |= table[pattern * NODES + node] & within;
            }
        }
    }

    private int bestRule(int node) {
        int best = -1;
        for (int r = 0; r < RULES; r++) {
            if ((matched[r] >> node & 1) != 0 && (best < 0 || goesBefore(r, best))) {
                best = r;
            }
        }
        return best;
    }

    private boolean goesBefore(int r, int other) {
        if (priorities[r] != priorities[other]) {
            return priorities[r] > priorities[other];
        }
        return givenAt[r] > givenAt[other];
    }

    private void beginList(int nodes, int body, int comeBackTo) {
        if (depth >= LISTS_ALLOWED) {
            outcome = DEEP;
            return;
        }
        listLeft[depth] = nodes;
        listPosition[depth] = 0;
        listSize[depth] = nodesIn(nodes);
        listBody[depth] = body;
        listReturn[depth] = comeBackTo;
        depth++;
        cursor = IDLE;
    }

    /** Goes on to the next node of the innermost list, or, behind its last one, to where it began. */
    private void advance() {
        int top = depth - 1;
        if (listLeft[top] == 0) {
            cursor = listReturn[top];
            depth--;
            return;
        }
        if (stepsTaken >= STEPS_ALLOWED) {
            outcome = LONG;
            return;
        }
        stepsTaken++;
        listNode[top] = firstOf(listLeft[top]);
        listLeft[top] &= listLeft[top] - 1;
        listPosition[top]++;
        if (listBody[top] == BY_RULES) {
            handle(listNode[top]);
        } else {
            cursor = listBody[top];
        }
    }

    private void handle(int node) {
        int r = bestRule(node);
        int children = axes[CHILD * NODES + node];
        cursor = IDLE;
        if (r >= 0) {
            cursor = ends[r * SLOT];
        } else if (children == 0) {
            putOut(values[node]);
        } else {
            beginList(children, BY_RULES, IDLE);
        }
    }

    private void execute() {
        int at = cursor;
        int node = listNode[depth - 1];
        switch (kinds[at]) {
            case TEXT:
                putOut(operands[at]);
                cursor = at + 1;
                break;
            case ELEMENT:
                putOut(ELEMENT_BEGIN + operands[at]);
                cursor = at + 1;
                break;
            case VALUE: case IF:
                executeNumber(at);
                break;
            case APPLY:
                beginList(table[(at + 1) * NODES + node], BY_RULES, ends[at]);
                break;
            case EACH:
                beginList(table[(at + 1) * NODES + node], ends[at + 1], ends[at]);
                break;
            case END:
                executeEnd(at);
                break;
            default:
                advance();
                break;
        }
    }

    private void executeNumber(int at) {
        int top = depth - 1;
        int result = numberAt(at + 1, listNode[top], listPosition[top], listSize[top]);
        if (kinds[at] == VALUE) {
            putOut(result);
            cursor = ends[at];
        } else {
            cursor = result != 0 ? ends[at + 1] : ends[at];
        }
    }

    private void executeEnd(int at) {
        int opener = kinds[openers[at]];
        if (opener == ELEMENT) {
            putOut(ELEMENT_END);
        }
        cursor = opener == EACH ? IDLE : at + 1;
    }

    private void putOut(int shown) {
        if (outputCount < OUTPUTS_KEPT) {
            outputs[outputCount] = shown;
        }
        outputCount++;
    }
}
