/**
 * An ordered tree of labelled nodes, paths through it put together from tokens, and watches on what
 * a path selects. A set of nodes is an int whose bit n stands for the node with the number n.
 */
public final class DocumentPaths {
    public static final int AXIS = 0;
    public static final int JOIN = 1;
    public static final int EITHER = 2;
    public static final int BOTH = 3;
    public static final int WITHOUT = 4;
    public static final int TURN = 5;
    public static final int REPEAT = 6;
    public static final int NTH = 7;
    public static final int WHERE = 8;
    public static final int TAG = 9;
    public static final int LEAST = 10;
    public static final int HAS = 11;
    public static final int NOT = 12;
    public static final int AND = 13;
    public static final int OR = 14;
    public static final int MATCH = 15;

    private static final int NONE = -1;
    private static final int ROOT = 0;
    private static final int MOST_NODES = 32;
    private static final int MOST_TAG = 7;
    private static final int MOST_VALUE = 99;
    private static final int NO_VALUE = 100;
    private static final int MOST_AXIS = 8;
    private static final int MOST_COUNT = 9;
    private static final int MOST_ENTRIES = 8;
    private static final int MOST_TOKENS = 24;
    private static final int WATCHES = 3;
    // The query's tokens stand behind those of the watches, so that one evaluation serves all.
    private static final int QUERY = WATCHES;
    private static final int PROGRAMS = WATCHES + 1;
    private static final int TOKEN_ROOM = PROGRAMS * MOST_TOKENS;
    private static final int ROW_ROOM = MOST_ENTRIES * MOST_NODES;

    // The tree is its document order and the nodes' levels: all that is below a node follows it in
    // one run, so a node is taken, put and copied with all below it as a piece of this row.
    private final int[] order = new int[MOST_NODES];
    private final int[] levels = new int[MOST_NODES];
    private final int[] tags = new int[MOST_NODES];
    private final int[] values = new int[MOST_NODES];
    private int size;
    private int present;

    // These follow from order and levels, and are made anew when the tree's shape has changed.
    private final int[] ranks = new int[MOST_NODES];
    private final int[] ends = new int[MOST_NODES];
    private final int[] parents = new int[MOST_NODES];

    // A run of nodes that is on its way to another place.
    private final int[] run = new int[MOST_NODES];

    // Tokens are kept, not sets: what an entry stands for changes with the tree.
    private final int[] kinds = new int[TOKEN_ROOM];
    private final int[] numbers = new int[TOKEN_ROOM];
    private final int[] lengths = new int[PROGRAMS];

    private final boolean[] entryIsPath = new boolean[MOST_ENTRIES];
    private int height;

    // What the latest evaluation found, by the entry's place on the stack: a path has a set of
    // nodes y for each node x in rows, a condition has one set in members.
    private final int[] rows = new int[ROW_ROOM];
    private final int[] members = new int[MOST_ENTRIES];

    private final boolean[] wasSet = new boolean[WATCHES];
    private final int[] watchNode = new int[WATCHES];
    private final int[] selects = new int[WATCHES];
    private final int[] selectedBefore = new int[WATCHES];

    public DocumentPaths() {
        size = 1;
        present = 1 << ROOT;
        order[0] = ROOT;
        for (int slot = 0; slot < WATCHES; slot++) {
            watchNode[slot] = NONE;
        }
        indexTree();
    }

    public int add(int parent, int place, int tag) {
        if (!isNode(parent)) {
            return -1;
        }
        if (place < 0 || place > countChildren(parent)) {
            return -2;
        }
        if (tag < 0 || tag > MOST_TAG) {
            return -3;
        }
        if (size >= MOST_NODES) {
            return -4;
        }
        int at = rankForChild(parent, place);
        openGap(at, 1);
        int node = takeLeastNumber();
        order[at] = node;
        levels[node] = levels[parent] + 1;
        tags[node] = tag;
        values[node] = 0;
        indexTree();
        refreshWatches();
        return node;
    }

    public int remove(int node) {
        if (!isNode(node)) {
            return -1;
        }
        if (node == ROOT) {
            return -2;
        }
        int at = ranks[node];
        int count = ends[node] - at;
        for (int r = at; r < at + count; r++) {
            present &= ~(1 << order[r]);
        }
        closeGap(at, count);
        indexTree();
        endWatchesOfMissingNodes();
        refreshWatches();
        return count;
    }

    public int move(int node, int parent, int place) {
        if (!isNode(node) || !isNode(parent)) {
            return -1;
        }
        if (node == ROOT || parent == node || isBelow(parent, node)) {
            return -2;
        }
        int others = countChildren(parent);
        if (parents[node] == parent) {
            others--;
        }
        if (place < 0 || place > others) {
            return -3;
        }
        int count = noteRun(node);
        int deeper = levels[parent] + 1 - levels[node];
        closeGap(ranks[node], count);
        // The place counts without the node, so the rest is indexed before the place is looked up.
        indexTree();
        int at = rankForChild(parent, place);
        openGap(at, count);
        for (int i = 0; i < count; i++) {
            order[at + i] = run[i];
            levels[run[i]] += deeper;
        }
        indexTree();
        refreshWatches();
        return others + 1;
    }

    public int copy(int node, int parent, int place) {
        if (!isNode(node) || !isNode(parent)) {
            return -1;
        }
        if (place < 0 || place > countChildren(parent)) {
            return -2;
        }
        if (size + ends[node] - ranks[node] > MOST_NODES) {
            return -4;
        }
        int count = noteRun(node);
        int deeper = levels[parent] + 1 - levels[node];
        int at = rankForChild(parent, place);
        openGap(at, count);
        for (int i = 0; i < count; i++) {
            int made = takeLeastNumber();
            order[at + i] = made;
            levels[made] = levels[run[i]] + deeper;
            tags[made] = tags[run[i]];
            values[made] = values[run[i]];
        }
        indexTree();
        refreshWatches();
        return order[at];
    }

    public int label(int node, int tag) {
        if (!isNode(node)) {
            return -1;
        }
        if (tag < 0 || tag > MOST_TAG) {
            return -3;
        }
        int had = tags[node];
        tags[node] = tag;
        refreshWatches();
        return had;
    }

    public int mark(int node, int value) {
        if (!isNode(node)) {
            return -1;
        }
        if (value < -MOST_VALUE || value > MOST_VALUE) {
            return -3;
        }
        int had = values[node];
        values[node] = value;
        refreshWatches();
        return had != value ? 1 : 0;
    }

    public int nodes() {
        return size;
    }

    public int nodeAt(int rank) {
        if (rank < 0 || rank >= size) {
            return -1;
        }
        return order[rank];
    }

    public int childAt(int node, int place) {
        if (!isNode(node)) {
            return -1;
        }
        return findChild(node, place);
    }

    public int tagOf(int node) {
        return isNode(node) ? tags[node] : -1;
    }

    public int valueOf(int node) {
        return isNode(node) ? values[node] : NO_VALUE;
    }

    public int token(int kind, int a) {
        if (kind < AXIS || kind > MATCH || !isNumberFor(kind, a)) {
            return -1;
        }
        if (lengths[QUERY] >= MOST_TOKENS) {
            return -2;
        }
        if (!fitsOnTop(kind)) {
            return -3;
        }
        int under = height - countTaken(kind);
        if (under >= MOST_ENTRIES) {
            return -4;
        }
        int at = QUERY * MOST_TOKENS + lengths[QUERY];
        kinds[at] = kind;
        numbers[at] = a;
        lengths[QUERY]++;
        entryIsPath[under] = givesPath(kind);
        height = under + 1;
        return height;
    }

    public int clearQuery() {
        int had = height;
        height = 0;
        lengths[QUERY] = 0;
        return had;
    }

    public int select(int node, int k) {
        if (!isNode(node) || !topIsPath()) {
            return -1;
        }
        int row = rowOfTop(node);
        int found = pick(row, k);
        return found == NONE ? -2 : found;
    }

    public int selected(int node) {
        if (!isNode(node) || !topIsPath()) {
            return -1;
        }
        int row = rowOfTop(node);
        return countBits(row);
    }

    public int related(int x, int y) {
        if (!isNode(x) || !isNode(y) || !topIsPath()) {
            return -1;
        }
        int row = rowOfTop(x);
        return row >>> y & 1;
    }

    public int pairs() {
        if (!topIsPath()) {
            return -1;
        }
        int base = evaluate(QUERY) * MOST_NODES;
        int count = 0;
        for (int x = 0; x < MOST_NODES; x++) {
            count += countBits(rows[base + x]);
        }
        return count;
    }

    public int holds(int node) {
        if (!isNode(node) || !topIsCondition()) {
            return -1;
        }
        int top = evaluate(QUERY);
        return members[top] >>> node & 1;
    }

    public int holders() {
        if (!topIsCondition()) {
            return -1;
        }
        int top = evaluate(QUERY);
        return countBits(members[top]);
    }

    public int same() {
        if (height < 2 || entryIsPath[height - 1] != entryIsPath[height - 2]) {
            return -1;
        }
        int top = evaluate(QUERY);
        boolean alike = entryIsPath[top] ? samePaths(top - 1) : members[top - 1] == members[top];
        return alike ? 1 : 0;
    }

    public int watch(int slot, int node) {
        if (!isSlot(slot)) {
            return -1;
        }
        if (!isNode(node) || !topIsPath()) {
            return -2;
        }
        keepQuery(slot);
        wasSet[slot] = true;
        watchNode[slot] = node;
        selects[slot] = rowOfTop(node);
        // Alike, so that nothing counts as gained or lost until the next edit.
        selectedBefore[slot] = selects[slot];
        return countBits(selects[slot]);
    }

    public int watched(int slot, int k) {
        if (!isSlot(slot) || !wasSet[slot]) {
            return -1;
        }
        int found = pick(selects[slot], k);
        return found == NONE ? -2 : found;
    }

    public int gained(int slot) {
        if (!isSlot(slot)) {
            return 0;
        }
        return countBits(selects[slot] & ~selectedBefore[slot]);
    }

    public int lost(int slot) {
        if (!isSlot(slot)) {
            return 0;
        }
        return countBits(selectedBefore[slot] & ~selects[slot]);
    }

    // ---- the tree

    private boolean isNode(int node) {
        return node >= 0 && node < MOST_NODES && (present >>> node & 1) == 1;
    }

    private boolean isBelow(int low, int high) {
        return ranks[low] > ranks[high] && ranks[low] < ends[high];
    }

    private int countChildren(int node) {
        int count = 0;
        for (int r = ranks[node] + 1; r < ends[node]; r++) {
            if (parents[order[r]] == node) {
                count++;
            }
        }
        return count;
    }

    private int findChild(int node, int place) {
        int passed = 0;
        for (int r = ranks[node] + 1; r < ends[node]; r++) {
            if (parents[order[r]] == node) {
                if (passed == place) {
                    return order[r];
                }
                passed++;
            }
        }
        return NONE;
    }

    private int rankForChild(int parent, int place) {
        int child = findChild(parent, place);
        return child == NONE ? ends[parent] : ranks[child];
    }

    private int takeLeastNumber() {
        int number = 0;
        while (number < MOST_NODES - 1 && (present >>> number & 1) == 1) {
            number++;
        }
        present |= 1 << number;
        return number;
    }

    private int noteRun(int node) {
        int count = ends[node] - ranks[node];
        for (int i = 0; i < count; i++) {
            run[i] = order[ranks[node] + i];
        }
        return count;
    }

    private void openGap(int at, int count) {
        for (int r = size - 1; r >= at; r--) {
            order[r + count] = order[r];
        }
        size += count;
    }

    private void closeGap(int at, int count) {
        for (int r = at + count; r < size; r++) {
            order[r - count] = order[r];
        }
        size -= count;
    }

    private void indexTree() {
        for (int r = 0; r < size; r++) {
            int node = order[r];
            ranks[node] = r;
            ends[node] = findEnd(r);
            parents[node] = findParent(r);
        }
    }

    private int findEnd(int at) {
        int r = at + 1;
        while (r < size && levels[order[r]] > levels[order[at]]) {
            r++;
        }
        return r;
    }

    private int findParent(int at) {
        for (int r = at - 1; r >= 0; r--) {
            if (levels[order[r]] < levels[order[at]]) {
                return order[r];
            }
        }
        return NONE;
    }

    // ---- sets of nodes

    private static int countBits(int set) {
        int count = 0;
        for (int node = 0; node < MOST_NODES; node++) {
            count += set >>> node & 1;
        }
        return count;
    }

    private int pick(int set, int k) {
        int passed = 0;
        for (int r = 0; r < size; r++) {
            if ((set >>> order[r] & 1) == 1) {
                if (passed == k) {
                    return order[r];
                }
                passed++;
            }
        }
        return NONE;
    }

    // ---- the query

    private static boolean isNumberFor(int kind, int a) {
        switch (kind) {
            case AXIS:
                return a >= 0 && a <= MOST_AXIS;
            case NTH:
                return a >= -MOST_COUNT && a <= MOST_COUNT && a != 0;
            case TAG:
                return a >= 0 && a <= MOST_TAG;
            case LEAST:
                return a >= -MOST_VALUE && a <= MOST_VALUE;
            case HAS:
                return a >= 1 && a <= MOST_COUNT;
            default:
                return true;
        }
    }

    private static int countTaken(int kind) {
        switch (kind) {
            case AXIS:
            case TAG:
            case LEAST:
                return 0;
            case TURN:
            case REPEAT:
            case NTH:
            case HAS:
            case NOT:
                return 1;
            default:
                return 2;
        }
    }

    private static boolean givesPath(int kind) {
        return kind <= WHERE;
    }

    private static boolean takesPathOnTop(int kind) {
        return kind != WHERE && kind != NOT && kind != AND && kind != OR;
    }

    private static boolean takesPathBelowTop(int kind) {
        return kind != AND && kind != OR;
    }

    private boolean fitsOnTop(int kind) {
        int taken = countTaken(kind);
        if (height < taken) {
            return false;
        }
        if (taken > 0 && entryIsPath[height - 1] != takesPathOnTop(kind)) {
            return false;
        }
        return taken < 2 || entryIsPath[height - 2] == takesPathBelowTop(kind);
    }

    private boolean topIsPath() {
        return height > 0 && entryIsPath[height - 1];
    }

    private boolean topIsCondition() {
        return height > 0 && !entryIsPath[height - 1];
    }

    private int rowOfTop(int node) {
        int top = evaluate(QUERY);
        return rows[top * MOST_NODES + node];
    }

    private boolean samePaths(int under) {
        int base = under * MOST_NODES;
        for (int x = 0; x < MOST_NODES; x++) {
            if (rows[base + x] != rows[base + MOST_NODES + x]) {
                return false;
            }
        }
        return true;
    }

    // ---- evaluation: an entry is made where the first entry that it takes has stood

    private int evaluate(int program) {
        int first = program * MOST_TOKENS;
        int behind = first + lengths[program];
        int top = NONE;
        for (int i = first; i < behind; i++) {
            top += 1 - countTaken(kinds[i]);
            if (givesPath(kinds[i])) {
                makePath(kinds[i], numbers[i], top);
            } else {
                makeCondition(kinds[i], numbers[i], top);
            }
        }
        return top;
    }

    private void makePath(int kind, int a, int entry) {
        int base = entry * MOST_NODES;
        switch (kind) {
            case AXIS:
                putAxis(a, base);
                break;
            case JOIN:
                joinRows(base);
                break;
            case TURN:
                turnRows(base);
                break;
            case REPEAT:
                repeatRows(base);
                break;
            case NTH:
                keepNth(a, base);
                break;
            case WHERE:
                keepMembers(members[entry + 1], base);
                break;
            default:
                combineRows(kind, base);
                break;
        }
    }

    private void makeCondition(int kind, int a, int entry) {
        int base = entry * MOST_NODES;
        switch (kind) {
            case TAG:
                members[entry] = nodesFromTo(tags, a, a);
                break;
            case LEAST:
                members[entry] = nodesFromTo(values, a, MOST_VALUE);
                break;
            case HAS:
                members[entry] = nodesWithMany(a, base);
                break;
            case NOT:
                members[entry] = present & ~members[entry];
                break;
            case AND:
                members[entry] &= members[entry + 1];
                break;
            case OR:
                members[entry] |= members[entry + 1];
                break;
            default:
                members[entry] = nodesThatMatch(base);
                break;
        }
    }

    private void putAxis(int axis, int base) {
        // The other tokens work on all rows alike, so those of missing nodes must be empty.
        for (int x = 0; x < MOST_NODES; x++) {
            rows[base + x] = 0;
        }
        for (int i = 0; i < size; i++) {
            int x = order[i];
            for (int j = 0; j < size; j++) {
                int y = order[j];
                if (isOnAxis(axis, x, y)) {
                    rows[base + x] |= 1 << y;
                }
            }
        }
    }

    // Calls nothing, not even isBelow: from an edit on, calls are as deep here as they may go.
    private boolean isOnAxis(int axis, int x, int y) {
        switch (axis) {
            case 0:
                return y == x;
            case 1:
                return parents[y] == x;
            case 2:
                return parents[x] == y;
            case 3:
                return ranks[y] > ranks[x] && ranks[y] < ends[x];
            case 4:
                return ranks[x] > ranks[y] && ranks[x] < ends[y];
            case 5:
                return parents[x] == parents[y] && ranks[y] > ranks[x];
            case 6:
                return parents[x] == parents[y] && ranks[y] < ranks[x];
            case 7:
                return ranks[y] >= ends[x];
            default:
                return ranks[x] >= ends[y];
        }
    }

    private void joinRows(int base) {
        for (int x = 0; x < MOST_NODES; x++) {
            int reached = 0;
            for (int y = 0; y < MOST_NODES; y++) {
                if ((rows[base + x] >>> y & 1) == 1) {
                    reached |= rows[base + MOST_NODES + y];
                }
            }
            rows[base + x] = reached;
        }
    }

    private void combineRows(int kind, int base) {
        for (int x = 0; x < MOST_NODES; x++) {
            int other = rows[base + MOST_NODES + x];
            if (kind == EITHER) {
                rows[base + x] |= other;
            } else if (kind == BOTH) {
                rows[base + x] &= other;
            } else {
                rows[base + x] &= ~other;
            }
        }
    }

    private void turnRows(int base) {
        for (int x = 0; x < MOST_NODES; x++) {
            for (int y = 0; y < x; y++) {
                int there = rows[base + x] >>> y & 1;
                int back = rows[base + y] >>> x & 1;
                if (there != back) {
                    rows[base + x] ^= 1 << y;
                    rows[base + y] ^= 1 << x;
                }
            }
        }
    }

    private void repeatRows(int base) {
        // One more node is let in between at each turn, so one pass over all of them is enough.
        for (int between = 0; between < MOST_NODES; between++) {
            for (int x = 0; x < MOST_NODES; x++) {
                if ((rows[base + x] >>> between & 1) == 1) {
                    rows[base + x] |= rows[base + between];
                }
            }
        }
        for (int x = 0; x < MOST_NODES; x++) {
            rows[base + x] |= present & 1 << x;
        }
    }

    private void keepNth(int a, int base) {
        for (int x = 0; x < MOST_NODES; x++) {
            int k = a - 1;
            if (a < 0) {
                k = countBits(rows[base + x]) + a;
            }
            int kept = pick(rows[base + x], k);
            rows[base + x] = kept == NONE ? 0 : 1 << kept;
        }
    }

    private void keepMembers(int set, int base) {
        for (int x = 0; x < MOST_NODES; x++) {
            rows[base + x] &= set;
        }
    }

    private int nodesFromTo(int[] numbersOfNodes, int least, int most) {
        int set = 0;
        for (int r = 0; r < size; r++) {
            int number = numbersOfNodes[order[r]];
            if (number >= least && number <= most) {
                set |= 1 << order[r];
            }
        }
        return set;
    }

    private int nodesWithMany(int least, int base) {
        int set = 0;
        for (int x = 0; x < MOST_NODES; x++) {
            if (countBits(rows[base + x]) >= least) {
                set |= 1 << x;
            }
        }
        return set;
    }

    private int nodesThatMatch(int base) {
        int set = 0;
        for (int r = 0; r < size; r++) {
            int y = order[r];
            int alike = nodesFromTo(values, values[y], values[y]);
            for (int x = 0; x < MOST_NODES; x++) {
                boolean meets = (rows[base + MOST_NODES + x] & alike) != 0;
                if (meets && (rows[base + x] >>> y & 1) == 1) {
                    set |= 1 << x;
                }
            }
        }
        return set;
    }

    // ---- the watches

    private static boolean isSlot(int slot) {
        return slot >= 0 && slot < WATCHES;
    }

    private void keepQuery(int slot) {
        int from = QUERY * MOST_TOKENS;
        int to = slot * MOST_TOKENS;
        for (int i = 0; i < lengths[QUERY]; i++) {
            kinds[to + i] = kinds[from + i];
            numbers[to + i] = numbers[from + i];
        }
        lengths[slot] = lengths[QUERY];
    }

    // A number may be given out again, so a watch must forget its node when that is taken out.
    private void endWatchesOfMissingNodes() {
        for (int slot = 0; slot < WATCHES; slot++) {
            if (!isNode(watchNode[slot])) {
                watchNode[slot] = NONE;
            }
        }
    }

    private void refreshWatches() {
        for (int slot = 0; slot < WATCHES; slot++) {
            selectedBefore[slot] = selects[slot];
            selects[slot] = 0;
            if (watchNode[slot] != NONE) {
                int top = evaluate(slot);
                selects[slot] = rows[top * MOST_NODES + watchNode[slot]];
            }
        }
    }
}
