/**
 * A tree of elements and texts that is changed, and ranges in it that stay where they belong.
 */
public final class LiveRanges {
    private static final int NODE_LIMIT = 24;
    private static final int LETTER_LIMIT = 12;
    private static final int RANGE_LIMIT = 4;
    private static final int GREATEST_LETTERS = 9999;

    /** Each range has two places: its start at 2 * range, its end at 2 * range + 1. */
    private static final int PLACE_LIMIT = 8;

    /** How many items of one node there is room for: an element may have all other nodes as children. */
    private static final int ITEM_WIDTH = 24;
    private static final int ITEM_LIMIT = 576;

    /** No row is longer: two marks and LETTER_LIMIT letters for each node. */
    private static final int ROW_LIMIT = 336;

    private static final int ELEMENT = 0;
    private static final int TEXT = 1;
    private static final int NONE = -1;
    private static final int NO_LETTERS = -1;
    private static final int OTHER_TREE = 2;

    private int nodeCount;
    private final int[] kinds = new int[NODE_LIMIT];
    private final int[] parents = new int[NODE_LIMIT];

    /** How many items a node has: the children of an element, the letters of a text. */
    private final int[] sizes = new int[NODE_LIMIT];
    private final int[] items = new int[ITEM_LIMIT];

    private final int[] placeNodes = new int[PLACE_LIMIT];
    private final int[] placeOffsets = new int[PLACE_LIMIT];

    // What follows is worked out anew by each call that needs it, and means nothing between calls.
    // A gap is told by how many marks and letters of the laid row are ahead of it.
    private final int[] rowLetters = new int[ROW_LIMIT];
    private final int[] rowNodes = new int[ROW_LIMIT];
    private final int[] openAt = new int[NODE_LIMIT];
    private final int[] closeAt = new int[NODE_LIMIT];
    private final int[] itemsLaid = new int[NODE_LIMIT];
    private int startGap;
    private int endGap;
    private final int[] doomed = new int[NODE_LIMIT];

    public LiveRanges() {
        nodeCount = 0;
        makeNode(ELEMENT);
    }

    public int element() {
        if (nodeCount >= NODE_LIMIT) {
            return -2;
        }
        return makeNode(ELEMENT);
    }

    public int text() {
        if (nodeCount >= NODE_LIMIT) {
            return -2;
        }
        return makeNode(TEXT);
    }

    public int put(int parent, int child, int index) {
        if (!isOfKind(parent, ELEMENT) || !isNode(child)) {
            return -1;
        }
        if (child == 0 || isWithin(parent, child)) {
            return -2;
        }
        int others = parents[child] == parent ? sizes[parent] - 1 : sizes[parent];
        if (index < 0 || index > others) {
            return -3;
        }
        if (parents[child] != NONE) {
            takeOut(child);
        }
        putIn(parent, child, index);
        return sizes[parent];
    }

    public int take(int node) {
        if (!isNode(node)) {
            return -1;
        }
        if (parents[node] == NONE) {
            return -2;
        }
        int index = indexOf(node);
        takeOut(node);
        return index;
    }

    public int replace(int text, int a, int c, int letters) {
        if (!isOfKind(text, TEXT)) {
            return -1;
        }
        if (a < 0 || a > sizes[text] || c < 0) {
            return -2;
        }
        if (letters < NO_LETTERS || letters > GREATEST_LETTERS) {
            return -3;
        }
        int rest = sizes[text] - a;
        int gone = c > rest ? rest : c;
        int added = digitCount(letters);
        if (sizes[text] - gone + added > LETTER_LIMIT) {
            return -4;
        }
        replaceLetters(text, a, gone, letters);
        return sizes[text];
    }

    public int split(int text, int o) {
        if (!isOfKind(text, TEXT)) {
            return -1;
        }
        if (o < 0 || o > sizes[text]) {
            return -2;
        }
        if (nodeCount >= NODE_LIMIT) {
            return -3;
        }
        int fresh = makeNode(TEXT);
        int parent = parents[text];
        if (parent == NONE) {
            gatherPlaces(text, o + 1, sizes[text], text, o);
        } else {
            int index = indexOf(text);
            putIn(parent, fresh, index + 1);
            gatherPlaces(parent, index + 1, index + 1, parent, index + 2);
            slidePlaces(text, o + 1, fresh, -o);
        }
        handLetters(text, o, fresh);
        return fresh;
    }

    public int join(int text) {
        if (!isOfKind(text, TEXT)) {
            return -1;
        }
        int next = nextChild(text);
        if (next == NONE || kinds[next] != TEXT) {
            return -2;
        }
        int own = sizes[text];
        if (own + sizes[next] > LETTER_LIMIT) {
            return -3;
        }
        int nextIndex = indexOf(next);
        slidePlaces(next, 0, text, own);
        gatherPlaces(parents[text], nextIndex, nextIndex, text, own);
        handLetters(next, 0, text);
        takeOut(next);
        return next;
    }

    public int setStart(int range, int node, int o) {
        if (!isRange(range) || !isNode(node)) {
            return -1;
        }
        if (!isOffset(node, o)) {
            return -2;
        }
        int start = range * 2;
        setPlace(start, node, o);
        int order = placeOrder(start, start + 1);
        if (order == OTHER_TREE || order == 1) {
            setPlace(start + 1, node, o);
        }
        return 1;
    }

    public int setEnd(int range, int node, int o) {
        if (!isRange(range) || !isNode(node)) {
            return -1;
        }
        if (!isOffset(node, o)) {
            return -2;
        }
        int start = range * 2;
        setPlace(start + 1, node, o);
        int order = placeOrder(start, start + 1);
        if (order == OTHER_TREE || order == 1) {
            setPlace(start, node, o);
        }
        return 1;
    }

    public int erase(int range) {
        if (!isRange(range)) {
            return -1;
        }
        int start = range * 2;
        int s = placeNodes[start];
        int a = placeOffsets[start];
        int e = placeNodes[start + 1];
        int b = placeOffsets[start + 1];
        if (s == e && a == b) {
            return 0;
        }
        if (s == e && kinds[s] == TEXT) {
            replaceLetters(s, a, b - a, NO_LETTERS);
            return 0;
        }
        return eraseAcross(range);
    }

    public int nodes() {
        return nodeCount;
    }

    public int kind(int node) {
        return isNode(node) ? kinds[node] : -1;
    }

    public int size(int node) {
        return isNode(node) ? sizes[node] : -1;
    }

    public int parent(int node) {
        if (!isNode(node)) {
            return -1;
        }
        return parents[node] == NONE ? -2 : parents[node];
    }

    public int item(int node, int index) {
        if (!isNode(node)) {
            return -1;
        }
        if (index < 0 || index >= sizes[node]) {
            return -2;
        }
        return items[node * ITEM_WIDTH + index];
    }

    public int nodeOf(int range, int which) {
        if (!isRange(range) || !isWhich(which)) {
            return -1;
        }
        return placeNodes[range * 2 + which];
    }

    public int offsetOf(int range, int which) {
        if (!isRange(range) || !isWhich(which)) {
            return -1;
        }
        return placeOffsets[range * 2 + which];
    }

    public int compare(int range, int which, int other, int otherWhich) {
        if (!isRange(range) || !isWhich(which) || !isRange(other) || !isWhich(otherWhich)) {
            return -2;
        }
        return placeOrder(range * 2 + which, other * 2 + otherWhich);
    }

    public int letters(int range) {
        if (!isRange(range)) {
            return -1;
        }
        layRange(range);
        int count = 0;
        for (int at = startGap; at < endGap; at++) {
            if (rowLetters[at] != NONE) {
                count++;
            }
        }
        return count;
    }

    public int letterIn(int range, int k) {
        if (!isRange(range)) {
            return -1;
        }
        layRange(range);
        int count = 0;
        for (int at = startGap; at < endGap; at++) {
            if (rowLetters[at] != NONE) {
                if (count == k) {
                    return rowLetters[at];
                }
                count++;
            }
        }
        return -2;
    }

    public int holds(int range, int node) {
        if (!isRange(range) || !isNode(node)) {
            return -1;
        }
        int rangeTop = topOf(placeNodes[range * 2]);
        int nodeTop = topOf(node);
        if (rangeTop != nodeTop) {
            return 0;
        }
        layRange(range);
        return openAt[node] >= startGap && closeAt[node] < endGap ? 1 : 0;
    }

    // ---- What arguments may be

    private boolean isNode(int node) {
        return node >= 0 && node < nodeCount;
    }

    private boolean isOfKind(int node, int kind) {
        return isNode(node) && kinds[node] == kind;
    }

    private boolean isOffset(int node, int o) {
        return o >= 0 && o <= sizes[node];
    }

    private boolean isRange(int range) {
        return range >= 0 && range < RANGE_LIMIT;
    }

    private boolean isWhich(int which) {
        return which == 0 || which == 1;
    }

    // ---- The tree

    private int makeNode(int kind) {
        int node = nodeCount;
        kinds[node] = kind;
        parents[node] = NONE;
        sizes[node] = 0;
        nodeCount++;
        return node;
    }

    /** Whether a node is another one or below it. */
    private boolean isWithin(int node, int other) {
        int at = node;
        for (int step = 0; step < NODE_LIMIT && at != NONE; step++) {
            if (at == other) {
                return true;
            }
            at = parents[at];
        }
        return false;
    }

    private int topOf(int node) {
        int top = node;
        for (int step = 0; step < NODE_LIMIT && parents[top] != NONE; step++) {
            top = parents[top];
        }
        return top;
    }

    /** The index of a node that has a parent. */
    private int indexOf(int node) {
        int parent = parents[node];
        int index = 0;
        for (int i = 0; i < sizes[parent]; i++) {
            if (items[parent * ITEM_WIDTH + i] == node) {
                index = i;
            }
        }
        return index;
    }

    private int nextChild(int node) {
        int parent = parents[node];
        if (parent == NONE) {
            return NONE;
        }
        int index = indexOf(node) + 1;
        return index < sizes[parent] ? items[parent * ITEM_WIDTH + index] : NONE;
    }

    /** Moves a node's items from one index on to indexes that differ by 'by', and its size with them. */
    private void shiftItems(int node, int from, int by) {
        int base = node * ITEM_WIDTH;
        int size = sizes[node];
        if (by > 0) {
            for (int i = size - 1; i >= from; i--) {
                items[base + i + by] = items[base + i];
            }
        } else {
            for (int i = from; i < size; i++) {
                items[base + i + by] = items[base + i];
            }
        }
        sizes[node] = size + by;
    }

    private void takeOut(int node) {
        int parent = parents[node];
        int index = indexOf(node);
        for (int place = 0; place < PLACE_LIMIT; place++) {
            if (isWithin(placeNodes[place], node)) {
                setPlace(place, parent, index);
            }
        }
        slidePlaces(parent, index + 1, parent, -1);
        shiftItems(parent, index + 1, -1);
        parents[node] = NONE;
    }

    private void putIn(int parent, int child, int index) {
        slidePlaces(parent, index + 1, parent, 1);
        shiftItems(parent, index, 1);
        items[parent * ITEM_WIDTH + index] = child;
        parents[child] = parent;
    }

    private int digitCount(int letters) {
        if (letters == NO_LETTERS) {
            return 0;
        }
        if (letters < 10) {
            return 1;
        }
        if (letters < 100) {
            return 2;
        }
        return letters < 1000 ? 3 : 4;
    }

    private void replaceLetters(int text, int a, int c, int letters) {
        int added = digitCount(letters);
        // Gathered first: what is slid may come to stand where places are gathered.
        gatherPlaces(text, a + 1, a + c, text, a);
        slidePlaces(text, a + c + 1, text, added - c);
        shiftItems(text, a + c, added - c);
        int digits = letters;
        for (int i = added - 1; i >= 0; i--) {
            items[text * ITEM_WIDTH + a + i] = digits % 10;
            digits = digits / 10;
        }
    }

    /** The letters of one text from a number on go behind those of another one; no place is moved. */
    private void handLetters(int from, int first, int to) {
        int size = sizes[from];
        for (int i = first; i < size; i++) {
            items[to * ITEM_WIDTH + sizes[to]] = items[from * ITEM_WIDTH + i];
            sizes[to]++;
        }
        sizes[from] = first;
    }

    // ---- The places

    private void setPlace(int place, int node, int o) {
        placeNodes[place] = node;
        placeOffsets[place] = o;
    }

    /** Places (node, q) with q from low to high all become (toNode, toOffset). */
    private void gatherPlaces(int node, int low, int high, int toNode, int toOffset) {
        for (int place = 0; place < PLACE_LIMIT; place++) {
            int q = placeOffsets[place];
            if (placeNodes[place] == node && q >= low && q <= high) {
                setPlace(place, toNode, toOffset);
            }
        }
    }

    /** Places (node, q) with q at least low become (toNode, q + by). */
    private void slidePlaces(int node, int low, int toNode, int by) {
        for (int place = 0; place < PLACE_LIMIT; place++) {
            int q = placeOffsets[place];
            if (placeNodes[place] == node && q >= low) {
                setPlace(place, toNode, q + by);
            }
        }
    }

    /** -1, 0 or 1 as one place is before, at or behind another one, or OTHER_TREE. */
    private int placeOrder(int place, int other) {
        int top = topOf(placeNodes[place]);
        int otherTop = topOf(placeNodes[other]);
        if (top != otherTop) {
            return OTHER_TREE;
        }
        layRow(top);
        int gap = gapOf(place);
        int otherGap = gapOf(other);
        if (gap == otherGap) {
            return 0;
        }
        return gap < otherGap ? -1 : 1;
    }

    // ---- The row of a tree

    /** Lays out the row of a node without a parent. */
    private void layRow(int top) {
        layOpening(top, 0);
        int node = top;
        for (int at = 1; at < ROW_LIMIT && node != NONE; at++) {
            int next = itemsLaid[node];
            if (next >= sizes[node]) {
                layInside(NONE, at);
                closeAt[node] = at;
                node = parents[node];
            } else {
                int item = items[node * ITEM_WIDTH + next];
                itemsLaid[node] = next + 1;
                if (kinds[node] == TEXT) {
                    layInside(item, at);
                } else {
                    layOpening(item, at);
                    node = item;
                }
            }
        }
    }

    private void layOpening(int node, int at) {
        rowLetters[at] = NONE;
        rowNodes[at] = node;
        openAt[node] = at;
        itemsLaid[node] = 0;
    }

    /** Lays a letter, or NONE for a closing mark. */
    private void layInside(int letter, int at) {
        rowLetters[at] = letter;
        rowNodes[at] = NONE;
    }

    /** The gap of a place in the laid row. */
    private int gapOf(int place) {
        int node = placeNodes[place];
        int o = placeOffsets[place];
        if (o == 0 || kinds[node] == TEXT) {
            return openAt[node] + 1 + o;
        }
        int childBefore = items[node * ITEM_WIDTH + o - 1];
        return closeAt[childBefore] + 1;
    }

    /** Lays out the row of the tree that a range is in, and finds the gaps of its start and end. */
    private void layRange(int range) {
        int start = range * 2;
        int top = topOf(placeNodes[start]);
        layRow(top);
        startGap = gapOf(start);
        endGap = gapOf(start + 1);
    }

    // ---- Erasing

    /** Erases a range whose start and end are not in one text. */
    private int eraseAcross(int range) {
        int start = range * 2;
        int s = placeNodes[start];
        int a = placeOffsets[start];
        int e = placeNodes[start + 1];
        int b = placeOffsets[start + 1];
        int x = s;
        int y = a;
        if (!isWithin(e, s)) {
            int branch = branchOf(s, e);
            x = parents[branch];
            y = indexOf(branch) + 1;
        }
        layRange(range);
        int count = findDoomed();
        if (kinds[s] == TEXT) {
            replaceLetters(s, a, sizes[s] - a, NO_LETTERS);
        }
        for (int i = 0; i < count; i++) {
            takeOut(doomed[i]);
        }
        if (kinds[e] == TEXT) {
            replaceLetters(e, 0, b, NO_LETTERS);
        }
        setPlace(start, x, y);
        setPlace(start + 1, x, y);
        return count;
    }

    /**
     * The node nearest to s, of s and those that s is below, whose parent is e or has e below it.
     * There is one if both are in one tree and e is neither s nor below it.
     */
    private int branchOf(int s, int e) {
        int branch = s;
        for (int step = 0; step < NODE_LIMIT && parents[branch] != NONE; step++) {
            if (isWithin(e, parents[branch])) {
                return branch;
            }
            branch = parents[branch];
        }
        return branch;
    }

    /** Lists the nodes wholly between the gaps of the laid range, but none below a listed one. */
    private int findDoomed() {
        int count = 0;
        int lastClose = 0;
        for (int at = startGap; at < endGap; at++) {
            int node = rowNodes[at];
            if (node != NONE && at > lastClose && closeAt[node] < endGap) {
                doomed[count] = node;
                count++;
                lastClose = closeAt[node];
            }
        }
        return count;
    }
}
