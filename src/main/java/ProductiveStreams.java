public final class ProductiveStreams {
    public static final int LIMIT = 32;
    public static final int NUM = 1;
    public static final int HEAD = 2;
    public static final int ADD = 3;
    public static final int SUB = 4;
    public static final int MUL = 5;
    public static final int CONS = 6;
    public static final int TAIL = 7;
    public static final int ZIPADD = 8;
    public static final int ZIPSUB = 9;
    public static final int ZIPMUL = 10;
    public static final int REF = 11;
    public static final int DEF = 12;
    public static final int SORT_NONE = 0;
    public static final int SORT_ELEM = 1;
    public static final int SORT_STREAM = 2;
    public static final int ACCEPTED = 0;
    public static final int OPEN = 1;
    public static final int EMPTY = 2;
    public static final int UNDEFINED = 3;
    public static final int UNGUARDED = 4;
    public static final int OK = 0;
    public static final int BLACKHOLE = 1;
    public static final int RANGE = 2;
    public static final int NOTREADY = 3;
    public static final int BADARG = 4;
    public static final int NONE = -1000000;

    private static final int MIN_NAMES = 1;
    private static final int MAX_NAMES = 8;
    private static final int MIN_CELLS = 16;
    private static final int MAX_CELLS = 96;
    private static final int PAIRS = MAX_NAMES * LIMIT;

    private static final int NO_NAME = -1;
    private static final int NO_INDEX = -1;
    private static final int NO_CELL = -1;
    private static final int UNVISITED = -1;

    private static final int NOT_MADE = 0;
    private static final int BEING_MADE = 1;
    private static final int MADE = 2;

    // Every walk starts a pair, finishes a pair or faults, and no pair is started twice,
    // so an evaluation needs at most 2 * PAIRS walks.
    private static final int WALK_BOUND = 1000000;

    private final int nameLimit;
    private final int cellLimit;

    private int usedCells;
    private final int[] kindOf = new int[MAX_CELLS];
    private final int[] valueOf = new int[MAX_CELLS];
    private final int[] ownerOf = new int[MAX_CELLS];
    private final int[] offsetOf = new int[MAX_CELLS];
    private final int[] parentOf = new int[MAX_CELLS];
    // Only the last child needs a note: in prefix order a first child follows its parent at once.
    private final int[] lastChildOf = new int[MAX_CELLS];

    private final boolean[] closed = new boolean[MAX_NAMES];
    private final int[] rootOf = new int[MAX_NAMES];
    private final int[] endOf = new int[MAX_NAMES];

    // The pending slots are a stack: the slot to fill next is the last one.
    // A token adds at most one slot on balance, so there are never more slots than cells.
    private int opened;
    private int slotCount;
    private final int[] slotSort = new int[MAX_CELLS];
    private final int[] slotOffset = new int[MAX_CELLS];
    private final int[] slotParent = new int[MAX_CELLS];

    private final int[] walkWeight = new int[MAX_NAMES];
    private final int[] longerWeight = new int[MAX_NAMES];

    private final int[] visitIndex = new int[MAX_CELLS];
    private final int[] visitValue = new int[MAX_CELLS];
    private final int[] pairState = new int[PAIRS];
    private final int[] pairValue = new int[PAIRS];
    private final int[] path = new int[PAIRS];
    private int pathLength;

    private int lastValue;
    private int lastFaultName;
    private int lastFaultIndex;

    public ProductiveStreams(int names, int cells) {
        nameLimit = clamp(names, MIN_NAMES, MAX_NAMES);
        cellLimit = clamp(cells, MIN_CELLS, MAX_CELLS);
        opened = NO_NAME;
        lastFaultName = NO_NAME;
        lastFaultIndex = NO_INDEX;
    }

    private static int clamp(int number, int least, int most) {
        if (number < least) {
            return least;
        }
        return number > most ? most : number;
    }

    public void reset() {
        usedCells = 0;
        for (int name = 0; name < MAX_NAMES; name++) {
            closed[name] = false;
        }
        opened = NO_NAME;
        slotCount = 0;
        setResult(0, NO_NAME, NO_INDEX);
    }

    public boolean begin(int name) {
        if (opened != NO_NAME || !isName(name) || closed[name] || usedCells >= cellLimit) {
            return false;
        }
        int header = usedCells;
        opened = name;
        appendCell(DEF, name);
        rootOf[name] = usedCells;
        putSlot(SORT_STREAM, 0, header);
        return true;
    }

    public boolean token(int kind, int value) {
        if (!fitsNextSlot(kind)) {
            return false;
        }
        if (kind == REF && !isName(value)) {
            return false;
        }
        if (usedCells >= cellLimit) {
            return false;
        }
        int cell = usedCells;
        appendCell(kind, kind == NUM || kind == REF ? value : 0);
        fillNextSlot(cell);
        putChildSlots(cell);
        if (slotCount == 0) {
            closeDefinition();
        }
        return true;
    }

    private boolean fitsNextSlot(int kind) {
        if (kind < NUM || kind > REF || slotCount == 0) {
            return false;
        }
        int sort = kind <= MUL ? SORT_ELEM : SORT_STREAM;
        return sort == slotSort[slotCount - 1];
    }

    private boolean isName(int name) {
        return name >= 0 && name < nameLimit;
    }

    private void appendCell(int kind, int value) {
        kindOf[usedCells] = kind;
        valueOf[usedCells] = value;
        ownerOf[usedCells] = opened;
        usedCells++;
    }

    private void fillNextSlot(int cell) {
        slotCount--;
        int parent = slotParent[slotCount];
        offsetOf[cell] = slotOffset[slotCount];
        parentOf[cell] = parent;
        lastChildOf[parent] = cell;
    }

    // The second child goes in first, so that the first child is the next to fill.
    private void putChildSlots(int cell) {
        int offset = offsetOf[cell];
        switch (kindOf[cell]) {
            case HEAD:
                putSlot(SORT_STREAM, offset, cell);
                break;
            case TAIL:
                putSlot(SORT_STREAM, offset + 1, cell);
                break;
            case CONS:
                putSlot(SORT_STREAM, offset - 1, cell);
                putSlot(SORT_ELEM, offset, cell);
                break;
            case ADD:
            case SUB:
            case MUL:
                putSlot(SORT_ELEM, offset, cell);
                putSlot(SORT_ELEM, offset, cell);
                break;
            case ZIPADD:
            case ZIPSUB:
            case ZIPMUL:
                putSlot(SORT_STREAM, offset, cell);
                putSlot(SORT_STREAM, offset, cell);
                break;
            default:
                break;
        }
    }

    private void putSlot(int sort, int offset, int parent) {
        slotSort[slotCount] = sort;
        slotOffset[slotCount] = offset;
        slotParent[slotCount] = parent;
        slotCount++;
    }

    private void closeDefinition() {
        closed[opened] = true;
        endOf[opened] = usedCells;
        opened = NO_NAME;
    }

    public int pending() {
        return slotCount;
    }

    public int slot(int k) {
        if (k < 0 || k >= slotCount) {
            return SORT_NONE;
        }
        return slotSort[slotCount - 1 - k];
    }

    public int openName() {
        return opened;
    }

    public boolean defined(int name) {
        return isName(name) && closed[name];
    }

    public int used() {
        return usedCells;
    }

    public int cellKind(int k) {
        return isCell(k) ? kindOf[k] : 0;
    }

    public int cellValue(int k) {
        return isCell(k) ? valueOf[k] : 0;
    }

    private boolean isCell(int k) {
        return k >= 0 && k < usedCells;
    }

    public int verdict() {
        int obstacle = obstacleToEvaluation();
        if (obstacle != ACCEPTED) {
            return obstacle;
        }
        for (int name = 0; name < nameLimit; name++) {
            if (closed[name] && guard(name, name) >= 0) {
                return UNGUARDED;
            }
        }
        return ACCEPTED;
    }

    // The verdicts that refuse an evaluation, or ACCEPTED if none of them holds.
    private int obstacleToEvaluation() {
        if (opened != NO_NAME) {
            return OPEN;
        }
        // Only an open definition can have cells without a closed one.
        if (usedCells == 0) {
            return EMPTY;
        }
        for (int cell = 0; cell < usedCells; cell++) {
            if (kindOf[cell] == REF && !closed[valueOf[cell]]) {
                return UNDEFINED;
            }
        }
        return ACCEPTED;
    }

    public int guard(int a, int b) {
        if (!isName(a) || !isName(b)) {
            return NONE;
        }
        startWalksAt(a);
        int greatest = NONE;
        for (int edges = 1; edges <= nameLimit; edges++) {
            lengthenWalks();
            if (walkWeight[b] > greatest) {
                greatest = walkWeight[b];
            }
        }
        return greatest;
    }

    private void startWalksAt(int start) {
        for (int name = 0; name < nameLimit; name++) {
            walkWeight[name] = NONE;
        }
        walkWeight[start] = 0;
    }

    // From the greatest weights of walks with some number of edges to those with one edge more.
    private void lengthenWalks() {
        for (int name = 0; name < nameLimit; name++) {
            longerWeight[name] = NONE;
        }
        for (int cell = 0; cell < usedCells; cell++) {
            if (kindOf[cell] == REF && closed[ownerOf[cell]]) {
                followEdge(cell);
            }
        }
        for (int name = 0; name < nameLimit; name++) {
            walkWeight[name] = longerWeight[name];
        }
    }

    private void followEdge(int cell) {
        int before = walkWeight[ownerOf[cell]];
        if (before == NONE) {
            return;
        }
        int target = valueOf[cell];
        int weight = before + offsetOf[cell];
        if (weight > longerWeight[target]) {
            longerWeight[target] = weight;
        }
    }

    public int eval(int name, int index) {
        if (obstacleToEvaluation() != ACCEPTED) {
            return NOTREADY;
        }
        if (!defined(name) || index < 0 || index >= LIMIT) {
            return BADARG;
        }
        return evaluate(name, index);
    }

    // A pair that came out OK does so under every path that can lead to it, since it can't lead
    // back to a pair of that path; so each pair is made once and its value is kept.
    private int evaluate(int name, int index) {
        int wanted = name * LIMIT + index;
        forgetPairs();
        startPair(wanted);
        for (int walks = 0; walks < WALK_BOUND && pathLength > 0; walks++) {
            int outcome = walkLastPair();
            if (outcome != OK) {
                return outcome;
            }
        }
        setResult(pairValue[wanted], NO_NAME, NO_INDEX);
        return OK;
    }

    private void forgetPairs() {
        for (int pair = 0; pair < PAIRS; pair++) {
            pairState[pair] = NOT_MADE;
        }
        pathLength = 0;
    }

    private void startPair(int pair) {
        pairState[pair] = BEING_MADE;
        path[pathLength] = pair;
        pathLength++;
    }

    private void finishLastPair(int value) {
        pathLength--;
        int pair = path[pathLength];
        pairState[pair] = MADE;
        pairValue[pair] = value;
    }

    // Walks the pair at the end of the path as far as its first demand that has no value yet;
    // it is walked again from its root when that demand has been met.
    private int walkLastPair() {
        int pair = path[pathLength - 1];
        int name = pair / LIMIT;
        markVisits(name, pair % LIMIT);
        int demand = firstUnmetDemand(name);
        if (demand != NO_CELL) {
            return takeDemand(demand);
        }
        int value = valueOfVisits(name);
        finishLastPair(value);
        return OK;
    }

    private void markVisits(int name, int index) {
        int root = rootOf[name];
        visitIndex[root] = index;
        for (int cell = root + 1; cell < endOf[name]; cell++) {
            visitIndex[cell] = visitIndexBelowParent(cell);
        }
    }

    private int visitIndexBelowParent(int cell) {
        int parent = parentOf[cell];
        int index = visitIndex[parent];
        if (index == UNVISITED) {
            return UNVISITED;
        }
        switch (kindOf[parent]) {
            case HEAD:
                return 0;
            case TAIL:
                return index + 1;
            case CONS:
                if (cell == parent + 1) {
                    return index == 0 ? 0 : UNVISITED;
                }
                return index == 0 ? UNVISITED : index - 1;
            default:
                return index;
        }
    }

    private int firstUnmetDemand(int name) {
        for (int cell = rootOf[name]; cell < endOf[name]; cell++) {
            if (kindOf[cell] == REF && visitIndex[cell] != UNVISITED && !isMet(cell)) {
                return cell;
            }
        }
        return NO_CELL;
    }

    private boolean isMet(int cell) {
        int index = visitIndex[cell];
        return index < LIMIT && pairState[valueOf[cell] * LIMIT + index] == MADE;
    }

    private int takeDemand(int cell) {
        int name = valueOf[cell];
        int index = visitIndex[cell];
        // A pair beyond the limit is never on the path, so looking at the range first is safe.
        if (index >= LIMIT) {
            setResult(0, name, index);
            return RANGE;
        }
        int pair = name * LIMIT + index;
        if (pairState[pair] == BEING_MADE) {
            setResult(0, name, index);
            return BLACKHOLE;
        }
        startPair(pair);
        return OK;
    }

    // Backwards through the prefix order, so that children have their values before their parent.
    private int valueOfVisits(int name) {
        int root = rootOf[name];
        for (int cell = endOf[name] - 1; cell >= root; cell--) {
            if (visitIndex[cell] != UNVISITED) {
                visitValue[cell] = valueOfVisit(cell);
            }
        }
        return visitValue[root];
    }

    private int valueOfVisit(int cell) {
        switch (kindOf[cell]) {
            case NUM:
                return valueOf[cell];
            case REF:
                return pairValue[valueOf[cell] * LIMIT + visitIndex[cell]];
            case HEAD:
            case TAIL:
                return visitValue[cell + 1];
            case CONS:
                return visitIndex[cell] == 0 ? visitValue[cell + 1] : visitValue[lastChildOf[cell]];
            case ADD:
            case ZIPADD:
                return visitValue[cell + 1] + visitValue[lastChildOf[cell]];
            case SUB:
            case ZIPSUB:
                return visitValue[cell + 1] - visitValue[lastChildOf[cell]];
            default:
                return visitValue[cell + 1] * visitValue[lastChildOf[cell]];
        }
    }

    private void setResult(int value, int faultedName, int faultedIndex) {
        lastValue = value;
        lastFaultName = faultedName;
        lastFaultIndex = faultedIndex;
    }

    public int value() {
        return lastValue;
    }

    public int faultName() {
        return lastFaultName;
    }

    public int faultIndex() {
        return lastFaultIndex;
    }
}
