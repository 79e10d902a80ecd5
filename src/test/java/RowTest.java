import java.util.ArrayList;
import java.util.Arrays;
import java.util.List;

/**
 * Every call that changes something, with every argument from below the least to above the greatest, on the same
 * three trees, and with the ranges at every place in turn.
 *
 * What is due is found from the rows alone: a call cuts marks and letters out of a row, or sets some into it, and a
 * place stays behind those that are still ahead of it.
 */
public final class RowTest {
    private static final int GREATEST = Integer.MAX_VALUE;

    /** Marks are written < and > with an element's number, [ and ] with a text's. */
    private static final String[] TREES = {
        "<0 <1 [4 5 6 ]4 <6 >6 >1 [2 1 2 3 4 ]2 [8 9 0 ]8 <3 [5 7 8 ]5 [7 ]7 >3 >0",
        "[11 1 1 1 1 1 1 1 1 1 1 ]11",
        "<9 [10 3 ]10 [12 5 5 5 5 5 5 5 5 5 5 5 ]12 [13 6 ]13 >9",
    };
    private static final int NODES = 14;

    private static int wrong = 0;
    private static int tried = 0;

    private static final class Spot {
        List<String> row;
        int gap;

        Spot(List<String> row, int gap) {
            this.row = row;
            this.gap = gap;
        }
    }

    /** All trees by their rows; a gap is told by how many marks and letters of its row are ahead of it. */
    private static final class Rows {
        final List<List<String>> rows = new ArrayList<>();
        final Spot[] spots = new Spot[8];
        int nodes = NODES;

        Rows() {
            for (String tree : TREES) {
                rows.add(new ArrayList<>(Arrays.asList(tree.split(" "))));
            }
        }

        /** The row in which a node's marks are, or null if there is no such node. */
        List<String> rowWith(int node) {
            for (List<String> row : rows) {
                if (row.contains("<" + node) || row.contains("[" + node)) {
                    return row;
                }
            }
            return null;
        }

        boolean isText(int node) {
            List<String> row = rowWith(node);
            return row != null && row.contains("[" + node);
        }

        boolean isElement(int node) {
            List<String> row = rowWith(node);
            return row != null && row.contains("<" + node);
        }

        int open(int node) {
            return rowWith(node).indexOf((isText(node) ? "[" : "<") + node);
        }

        int close(int node) {
            return rowWith(node).indexOf((isText(node) ? "]" : ">") + node);
        }

        /** The place, {node, offset}, at a gap of a row. */
        int[] place(List<String> row, int gap) {
            List<int[]> around = new ArrayList<>();
            for (String token : row.subList(0, gap)) {
                if (token.startsWith("<") || token.startsWith("[")) {
                    around.add(new int[] {Integer.parseInt(token.substring(1)), 0});
                } else {
                    if (token.startsWith(">") || token.startsWith("]")) {
                        around.remove(around.size() - 1);
                    }
                    around.get(around.size() - 1)[1]++;
                }
            }
            return around.get(around.size() - 1);
        }

        int gap(int node, int offset) {
            List<String> row = rowWith(node);
            for (int gap = 1; gap < row.size(); gap++) {
                if (Arrays.equals(place(row, gap), new int[] {node, offset})) {
                    return gap;
                }
            }
            return -1;
        }

        int size(int node) {
            return place(rowWith(node), close(node))[1];
        }

        List<String> cut(List<String> row, int from, int to) {
            List<String> out = new ArrayList<>(row.subList(from, to));
            row.subList(from, to).clear();
            for (Spot spot : spots) {
                if (spot.row == row && spot.gap > from) {
                    spot.gap = spot.gap <= to ? from : spot.gap - (to - from);
                }
            }
            return out;
        }

        void set(List<String> row, int at, List<String> more) {
            row.addAll(at, more);
            for (Spot spot : spots) {
                if (spot.row == row && spot.gap > at) {
                    spot.gap += more.size();
                }
            }
        }

        void cutNode(int node) {
            rows.add(cut(rowWith(node), open(node), close(node) + 1));
        }

        int put(int parent, int child, int index) {
            if (!isElement(parent) || rowWith(child) == null) {
                return -1;
            }
            boolean isWithin = rowWith(parent) == rowWith(child) && open(parent) >= open(child)
                && close(parent) <= close(child);
            if (child == 0 || isWithin) {
                return -2;
            }
            boolean isThere = open(child) > 0 && place(rowWith(child), open(child))[0] == parent;
            if (index < 0 || index > size(parent) - (isThere ? 1 : 0)) {
                return -3;
            }
            if (open(child) > 0) {
                cutNode(child);
            }
            List<String> part = rowWith(child);
            List<String> row = rowWith(parent);
            int at = gap(parent, index);
            set(row, at, part);
            for (Spot spot : spots) {
                if (spot.row == part) {
                    spot.row = row;
                    spot.gap += at;
                }
            }
            rows.removeIf(other -> other == part);
            return size(parent);
        }

        int take(int node) {
            if (rowWith(node) == null) {
                return -1;
            }
            if (open(node) == 0) {
                return -2;
            }
            int index = place(rowWith(node), open(node))[1];
            cutNode(node);
            return index;
        }

        int replace(int text, int a, int c, int letters) {
            if (!isText(text)) {
                return -1;
            }
            if (a < 0 || a > size(text) || c < 0) {
                return -2;
            }
            if (letters < -1 || letters > 9999) {
                return -3;
            }
            List<String> more = letters == -1 ? List.of() : Arrays.asList(String.valueOf(letters).split(""));
            int from = gap(text, a);
            int to = (int) Math.min((long) from + c, close(text));
            if (size(text) - (to - from) + more.size() > 12) {
                return -4;
            }
            cut(rowWith(text), from, to);
            set(rowWith(text), from, more);
            return size(text);
        }

        int split(int text, int o) {
            if (!isText(text)) {
                return -1;
            }
            if (o < 0 || o > size(text)) {
                return -2;
            }
            int fresh = nodes;
            nodes++;
            List<String> row = rowWith(text);
            int at = gap(text, o);
            int end = close(text);
            if (open(text) > 0) {
                row.set(end, "]" + fresh);
                set(row, at, List.of("]" + text, "[" + fresh));
            } else {
                List<String> part = cut(row, at, end);
                part.add(0, "[" + fresh);
                part.add("]" + fresh);
                rows.add(part);
            }
            return fresh;
        }

        int join(int text) {
            if (!isText(text)) {
                return -1;
            }
            List<String> row = rowWith(text);
            int end = close(text);
            if (open(text) == 0 || !row.get(end + 1).startsWith("[")) {
                return -2;
            }
            int next = Integer.parseInt(row.get(end + 1).substring(1));
            if (size(text) + size(next) > 12) {
                return -3;
            }
            row.set(close(next), "]" + text);
            cut(row, end, end + 2);
            rows.add(new ArrayList<>(List.of("[" + next, "]" + next)));
            return next;
        }

        int setSpot(int which, int range, int node, int o) {
            if (range < 0 || range > 3 || rowWith(node) == null) {
                return -1;
            }
            if (o < 0 || o > size(node)) {
                return -2;
            }
            Spot spot = spots[2 * range + which];
            Spot other = spots[2 * range + 1 - which];
            spot.row = rowWith(node);
            spot.gap = gap(node, o);
            if (other.row != spot.row || (which == 0 ? other.gap < spot.gap : other.gap > spot.gap)) {
                other.row = spot.row;
                other.gap = spot.gap;
            }
            return 1;
        }

        /** Cuts out what is in a range, but no mark whose other mark is not: first closing, then opening ones. */
        int erase(int range) {
            if (range < 0 || range > 3) {
                return -1;
            }
            List<String> row = spots[2 * range].row;
            int from = spots[2 * range].gap;
            int to = spots[2 * range + 1].gap;
            int closings = 0;
            int out = 0;
            for (int at = to - 1; at >= from; at--) {
                String token = row.get(at);
                String mark = token.substring(0, 1);
                if (!"<[>]".contains(mark)) {
                    cut(row, at, at + 1);
                } else if (">]".contains(mark)) {
                    int opening = open(Integer.parseInt(token.substring(1)));
                    if (opening >= from) {
                        rows.add(cut(row, opening, at + 1));
                        at = opening;
                        out++;
                    } else {
                        closings++;
                    }
                }
            }
            spots[2 * range].gap = from + closings;
            spots[2 * range + 1].gap = from + closings;
            return out;
        }

        int change(String name, int[] v) {
            switch (name) {
                case "put": return put(v[0], v[1], v[2]);
                case "take": return take(v[0]);
                case "replace": return replace(v[0], v[1], v[2], v[3]);
                case "split": return split(v[0], v[1]);
                case "join": return join(v[0]);
                case "setStart": return setSpot(0, v[0], v[1], v[2]);
                case "setEnd": return setSpot(1, v[0], v[1], v[2]);
                default: return erase(v[0]);
            }
        }
    }

    private static int change(LiveRanges x, String name, int[] v) {
        switch (name) {
            case "put": return x.put(v[0], v[1], v[2]);
            case "take": return x.take(v[0]);
            case "replace": return x.replace(v[0], v[1], v[2], v[3]);
            case "split": return x.split(v[0], v[1]);
            case "join": return x.join(v[0]);
            case "setStart": return x.setStart(v[0], v[1], v[2]);
            case "setEnd": return x.setEnd(v[0], v[1], v[2]);
            default: return x.erase(v[0]);
        }
    }

    private static LiveRanges trees(Rows due) {
        LiveRanges x = new LiveRanges();
        for (int n = 1; n < NODES; n++) {
            if (due.isText(n)) {
                x.text();
            } else {
                x.element();
            }
        }
        for (List<String> row : due.rows) {
            for (int at = 1; at + 1 < row.size(); at++) {
                int[] place = due.place(row, at);
                String token = row.get(at);
                if (token.startsWith("<") || token.startsWith("[")) {
                    x.put(place[0], Integer.parseInt(token.substring(1)), place[1]);
                } else if (due.isText(place[0]) && !token.startsWith("]")) {
                    x.replace(place[0], place[1], 0, Integer.parseInt(token));
                }
            }
        }
        return x;
    }

    /** The row of a node, as the object's answers tell it. */
    private static void addRow(LiveRanges x, int node, List<String> row) {
        boolean isText = x.kind(node) == 1;
        row.add((isText ? "[" : "<") + node);
        int size = x.size(node);
        for (int i = 0; i < size; i++) {
            int item = x.item(node, i);
            if (isText) {
                row.add(String.valueOf(item));
            } else {
                addRow(x, item, row);
            }
        }
        row.add((isText ? "]" : ">") + node);
    }

    private static void mustBe(String call, String what, Object got, Object want) {
        if (!got.equals(want)) {
            wrong++;
            System.out.println(call + ": " + what + " is " + got + ", due is " + want);
        }
    }

    private static void compareAll(String call, LiveRanges x, Rows due) {
        mustBe(call, "nodes()", x.nodes(), due.nodes);
        for (int n = 0; n < due.nodes; n++) {
            int open = due.open(n);
            List<String> row = due.rowWith(n);
            mustBe(call, "parent(" + n + ")", x.parent(n), open == 0 ? -2 : due.place(row, open)[0]);
            if (open == 0) {
                List<String> got = new ArrayList<>();
                addRow(x, n, got);
                mustBe(call, "the row of " + n, got, row);
            }
        }
        for (int i = 0; i < 8; i++) {
            int[] got = {x.nodeOf(i / 2, i % 2), x.offsetOf(i / 2, i % 2)};
            int[] want = due.place(due.spots[i].row, due.spots[i].gap);
            String what = "range " + i / 2 + "'s " + (i % 2 == 0 ? "start" : "end");
            mustBe(call, what, Arrays.toString(got), Arrays.toString(want));
        }
    }

    /** The call, with ranges {start's node, offset, end's node, offset} set before it. */
    private static void tryCall(int[][] ranges, String name, int... v) {
        if (wrong > 20) {
            return;
        }
        tried++;
        Rows due = new Rows();
        LiveRanges x = trees(due);
        StringBuilder told = new StringBuilder();
        for (int range = 0; range < 4; range++) {
            int[] ends = ranges[range];
            x.setStart(range, ends[0], ends[1]);
            x.setEnd(range, ends[2], ends[3]);
            due.spots[2 * range] = new Spot(due.rowWith(ends[0]), due.gap(ends[0], ends[1]));
            due.spots[2 * range + 1] = new Spot(due.rowWith(ends[2]), due.gap(ends[2], ends[3]));
            told.append(Arrays.toString(ends)).append(' ');
        }
        String call = "ranges " + told + ", " + name + Arrays.toString(v);
        mustBe(call, "the answer", change(x, name, v), due.change(name, v));
        compareAll(call, x, due);
    }

    /** Every place of every tree. */
    private static List<int[]> places() {
        Rows due = new Rows();
        List<int[]> all = new ArrayList<>();
        for (List<String> row : due.rows) {
            for (int gap = 1; gap < row.size(); gap++) {
                all.add(due.place(row, gap));
            }
        }
        return all;
    }

    /** The call with a range at every place, four of them at a time. */
    private static void tryAtAllPlaces(String name, int... v) {
        List<int[]> all = places();
        for (int first = 0; first < all.size(); first += 4) {
            int[][] ranges = new int[4][];
            for (int range = 0; range < 4; range++) {
                int[] place = all.get((first + range) % all.size());
                ranges[range] = new int[] {place[0], place[1], place[0], place[1]};
            }
            tryCall(ranges, name, v);
        }
    }

    private static int sizeOr0(Rows due, int node) {
        return due.rowWith(node) == null ? 0 : due.size(node);
    }

    private static void tryPuts() {
        Rows due = new Rows();
        for (int parent = -1; parent <= NODES; parent++) {
            for (int child = -1; child <= NODES; child++) {
                if (due.isElement(parent) && child >= 0) {
                    for (int index = -1; index <= sizeOr0(due, parent) + 1; index++) {
                        tryAtAllPlaces("put", parent, child, index);
                    }
                } else {
                    tryAtAllPlaces("put", parent, child, 0);
                }
            }
        }
    }

    private static void tryReplaces() {
        Rows due = new Rows();
        int[] letters = {-2, -1, 0, 10, 987, 9999, 10000};
        for (int text = -1; text <= NODES; text++) {
            for (int a = -1; a <= sizeOr0(due, text) + 1; a++) {
                for (int c = -1; c <= sizeOr0(due, text) - a + 1; c++) {
                    for (int value : letters) {
                        tryNearText(due, text, a, c, value);
                        if (c > sizeOr0(due, text) - a) {
                            tryNearText(due, text, a, GREATEST, value);
                        }
                    }
                }
            }
        }
    }

    /** Only places in the text and beside it, four at a time, as there are so many of these calls. */
    private static void tryNearText(Rows due, int text, int a, int c, int letters) {
        int size = sizeOr0(due, text);
        for (int first = 0; first <= size; first += 3) {
            int[][] ranges = new int[4][];
            for (int range = 0; range < 4; range++) {
                boolean isInside = range < 3 && due.isText(text);
                int o = Math.min(first + range, size);
                ranges[range] = isInside ? new int[] {text, o, text, o} : new int[] {0, 1, 0, 2};
            }
            tryCall(ranges, "replace", text, a, c, letters);
        }
    }

    private static void tryOthers() {
        Rows due = new Rows();
        for (int node = -1; node <= NODES; node++) {
            tryAtAllPlaces("take", node);
            tryAtAllPlaces("join", node);
            for (int o = -1; o <= sizeOr0(due, node) + 1; o++) {
                tryAtAllPlaces("split", node, o);
            }
        }
    }

    private static void trySets() {
        Rows due = new Rows();
        for (int node = -1; node <= NODES; node++) {
            for (int o = -1; o <= sizeOr0(due, node) + 1; o++) {
                for (int range = -1; range <= 4; range++) {
                    tryAtAllPlaces("setStart", range, node, o);
                    tryAtAllPlaces("setEnd", range, node, o);
                }
            }
        }
    }

    /** Every range of every tree erased, with the others at every place of the trees, three at a time. */
    private static void tryErases() {
        List<int[]> all = places();
        Rows due = new Rows();
        for (int i = 0; i < all.size(); i++) {
            for (int j = i; j < all.size(); j++) {
                int[] start = all.get(i);
                int[] end = all.get(j);
                if (due.rowWith(start[0]) == due.rowWith(end[0])) {
                    tryErase(all, new int[] {start[0], start[1], end[0], end[1]});
                }
            }
        }
    }

    private static void tryErase(List<int[]> all, int[] erased) {
        for (int first = 0; first < all.size(); first += 3) {
            int own = first / 3 % 4;
            int[][] ranges = new int[4][];
            for (int i = 0; i < 3; i++) {
                int[] place = all.get((first + i) % all.size());
                ranges[(own + 1 + i) % 4] = new int[] {place[0], place[1], place[0], place[1]};
            }
            ranges[own] = erased;
            tryCall(ranges, "erase", own);
        }
    }

    public static void main(String[] args) {
        tryPuts();
        tryReplaces();
        tryOthers();
        trySets();
        tryErases();
        System.out.println(tried + " calls were tried");
        System.out.println(wrong == 0 ? "all answers are as due" : wrong + " answers are not as due");
        if (wrong != 0) {
            System.exit(1);
        }
    }
}
