import java.util.ArrayList;
import java.util.List;

/**
 * Long runs of calls, each answer compared with that of a second program, written from the document
 * in another way: rows are lists of marks and letters, places are looked up in them.
 * The runs come from a fixed sequence of numbers, so every run of this test makes the same calls.
 */
public final class ModelTest {
    private static final int RUNS = 3000;
    private static final int CALLS = 512;

    private static final class Node {
        final int number;
        final boolean isText;
        Node parent = null;
        final List<Node> children = new ArrayList<>();
        final List<Integer> letters = new ArrayList<>();

        Node(int number, boolean isText) {
            this.number = number;
            this.isText = isText;
        }

        int size() {
            return isText ? letters.size() : children.size();
        }

        boolean isBelow(Node other) {
            return parent != null && (parent == other || parent.isBelow(other));
        }

        Node top() {
            return parent == null ? this : parent.top();
        }
    }

    private static final class Place {
        Node node;
        int offset;

        Place(Node node, int offset) {
            become(node, offset);
        }

        void become(Node toNode, int toOffset) {
            node = toNode;
            offset = toOffset;
        }

        boolean is(Node n, int o) {
            return node == n && offset == o;
        }
    }

    /** A mark ("open" or "close") of a node, or its letter with a number. */
    private static final class Token {
        final String sort;
        final Node node;
        final int number;

        Token(String sort, Node node, int number) {
            this.sort = sort;
            this.node = node;
            this.number = number;
        }
    }

    private static final class Model {
        final List<Node> nodes = new ArrayList<>();
        final Place[][] ranges = new Place[4][2];

        Model() {
            nodes.add(new Node(0, false));
            for (Place[] range : ranges) {
                range[0] = new Place(nodes.get(0), 0);
                range[1] = new Place(nodes.get(0), 0);
            }
        }

        Node node(int n) {
            return n >= 0 && n < nodes.size() ? nodes.get(n) : null;
        }

        Node textNode(int n) {
            Node node = node(n);
            return node != null && node.isText ? node : null;
        }

        Place[] range(int r) {
            return r >= 0 && r <= 3 ? ranges[r] : null;
        }

        List<Place> places() {
            List<Place> all = new ArrayList<>();
            for (Place[] range : ranges) {
                all.add(range[0]);
                all.add(range[1]);
            }
            return all;
        }

        void row(Node node, List<Token> into) {
            into.add(new Token("open", node, 0));
            for (Node child : node.children) {
                row(child, into);
            }
            for (int i = 0; i < node.letters.size(); i++) {
                into.add(new Token("letter", node, i));
            }
            into.add(new Token("close", node, 0));
        }

        List<Token> rowOfTree(Node node) {
            List<Token> row = new ArrayList<>();
            row(node.top(), row);
            return row;
        }

        int find(List<Token> row, String sort, Node node, int number) {
            for (int i = 0; i < row.size(); i++) {
                Token token = row.get(i);
                if (token.sort.equals(sort) && token.node == node && token.number == number) {
                    return i;
                }
            }
            return -1;
        }

        int gap(List<Token> row, Place place) {
            if (place.offset == 0) {
                return find(row, "open", place.node, 0) + 1;
            }
            if (place.node.isText) {
                return find(row, "letter", place.node, place.offset - 1) + 1;
            }
            return find(row, "close", place.node.children.get(place.offset - 1), 0) + 1;
        }

        int order(Place one, Place two) {
            if (one.node.top() != two.node.top()) {
                return 2;
            }
            List<Token> row = rowOfTree(one.node);
            return Integer.compare(gap(row, one), gap(row, two));
        }

        void takeOut(Node child) {
            Node p = child.parent;
            int i = p.children.indexOf(child);
            for (Place place : places()) {
                if (place.node == child || place.node.isBelow(child)) {
                    place.become(p, i);
                } else if (place.node == p && place.offset > i) {
                    place.offset--;
                }
            }
            p.children.remove(i);
            child.parent = null;
        }

        void putIn(Node p, Node child, int i) {
            for (Place place : places()) {
                if (place.node == p && place.offset > i) {
                    place.offset++;
                }
            }
            p.children.add(i, child);
            child.parent = p;
        }

        void replaceIn(Node t, int a, int c, String digits) {
            int k = digits.length();
            for (Place place : places()) {
                if (place.node == t && place.offset > a + c) {
                    place.offset += k - c;
                } else if (place.node == t && place.offset > a) {
                    place.offset = a;
                }
            }
            for (int i = 0; i < c; i++) {
                t.letters.remove(a);
            }
            for (int i = 0; i < k; i++) {
                t.letters.add(a + i, digits.charAt(i) - '0');
            }
        }

        int make(boolean isText) {
            if (nodes.size() == 24) {
                return -2;
            }
            nodes.add(new Node(nodes.size(), isText));
            return nodes.size() - 1;
        }

        int put(int parent, int child, int index) {
            Node p = node(parent);
            Node n = node(child);
            if (p == null || p.isText || n == null) {
                return -1;
            }
            if (child == 0 || p == n || p.isBelow(n)) {
                return -2;
            }
            List<Node> others = new ArrayList<>(p.children);
            others.remove(n);
            if (index < 0 || index > others.size()) {
                return -3;
            }
            if (n.parent != null) {
                takeOut(n);
            }
            putIn(p, n, index);
            return p.children.size();
        }

        int take(int number) {
            Node n = node(number);
            if (n == null) {
                return -1;
            }
            if (n.parent == null) {
                return -2;
            }
            int index = n.parent.children.indexOf(n);
            takeOut(n);
            return index;
        }

        int replace(int text, int a, int c, int letters) {
            Node t = textNode(text);
            if (t == null) {
                return -1;
            }
            if (a < 0 || a > t.size() || c < 0) {
                return -2;
            }
            if (letters < -1 || letters > 9999) {
                return -3;
            }
            String digits = letters == -1 ? "" : String.valueOf(letters);
            int gone = Math.min(c, t.size() - a);
            if (t.size() - gone + digits.length() > 12) {
                return -4;
            }
            replaceIn(t, a, gone, digits);
            return t.size();
        }

        int split(int text, int o) {
            Node t = textNode(text);
            if (t == null) {
                return -1;
            }
            if (o < 0 || o > t.size()) {
                return -2;
            }
            int made = make(true);
            if (made < 0) {
                return -3;
            }
            Node fresh = nodes.get(made);
            Node p = t.parent;
            int i = p == null ? 0 : p.children.indexOf(t);
            if (p != null) {
                putIn(p, fresh, i + 1);
            }
            for (Place place : places()) {
                if (p != null && place.is(p, i + 1)) {
                    place.become(p, i + 2);
                } else if (place.node == t && place.offset > o) {
                    place.become(p == null ? t : fresh, p == null ? o : place.offset - o);
                }
            }
            while (t.size() > o) {
                fresh.letters.add(t.letters.remove(o));
            }
            return made;
        }

        int join(int text) {
            Node t = textNode(text);
            if (t == null) {
                return -1;
            }
            Node p = t.parent;
            int next = p == null ? 0 : p.children.indexOf(t) + 1;
            if (p == null || next == p.children.size() || !p.children.get(next).isText) {
                return -2;
            }
            Node s = p.children.get(next);
            int m = t.size();
            if (m + s.size() > 12) {
                return -3;
            }
            for (Place place : places()) {
                if (place.node == s) {
                    place.become(t, m + place.offset);
                } else if (place.is(p, next)) {
                    place.become(t, m);
                }
            }
            t.letters.addAll(s.letters);
            s.letters.clear();
            takeOut(s);
            return s.number;
        }

        int set(int which, int r, int number, int o) {
            Place[] range = range(r);
            Node n = node(number);
            if (range == null || n == null) {
                return -1;
            }
            if (o < 0 || o > n.size()) {
                return -2;
            }
            range[which].become(n, o);
            int order = order(range[0], range[1]);
            if (order > 0) {
                range[1 - which].become(n, o);
            }
            return 1;
        }

        boolean isInside(Place[] range, Node node) {
            if (node.top() != range[0].node.top()) {
                return false;
            }
            List<Token> row = rowOfTree(node);
            return find(row, "open", node, 0) >= gap(row, range[0])
                && find(row, "close", node, 0) + 1 <= gap(row, range[1]);
        }

        int erase(int r) {
            Place[] range = range(r);
            if (range == null) {
                return -1;
            }
            Node s = range[0].node;
            int a = range[0].offset;
            Node e = range[1].node;
            int b = range[1].offset;
            if (s == e && a == b) {
                return 0;
            }
            if (s == e && s.isText) {
                replaceIn(s, a, b - a, "");
                return 0;
            }
            List<Node> out = new ArrayList<>();
            for (Token token : rowOfTree(s)) {
                Node n = token.node;
                if (token.sort.equals("open") && isInside(range, n) && !isInside(range, n.parent)) {
                    out.add(n);
                }
            }
            Node x = s;
            int y = a;
            if (e != s && !e.isBelow(s)) {
                Node branch = s;
                while (branch.parent != e && !e.isBelow(branch.parent)) {
                    branch = branch.parent;
                }
                x = branch.parent;
                y = x.children.indexOf(branch) + 1;
            }
            if (s.isText) {
                replaceIn(s, a, s.size() - a, "");
            }
            for (Node n : out) {
                takeOut(n);
            }
            if (e.isText) {
                replaceIn(e, 0, b, "");
            }
            range[0].become(x, y);
            range[1].become(x, y);
            return out.size();
        }

        int item(int number, int index) {
            Node n = node(number);
            if (n == null) {
                return -1;
            }
            if (index < 0 || index >= n.size()) {
                return -2;
            }
            return n.isText ? n.letters.get(index) : n.children.get(index).number;
        }

        List<Integer> lettersIn(Place[] range) {
            List<Token> row = rowOfTree(range[0].node);
            List<Integer> found = new ArrayList<>();
            for (Token token : row.subList(gap(row, range[0]), gap(row, range[1]))) {
                if (token.sort.equals("letter")) {
                    found.add(token.node.letters.get(token.number));
                }
            }
            return found;
        }

        int ask(int question, int[] v) {
            Node n = node(v[0]);
            Place[] range = range(v[0]);
            boolean isWhich = v[1] == 0 || v[1] == 1;
            switch (question) {
                case 0: return nodes.size();
                case 1: return n == null ? -1 : n.isText ? 1 : 0;
                case 2: return n == null ? -1 : n.size();
                case 3: return n == null ? -1 : n.parent == null ? -2 : n.parent.number;
                case 4: return item(v[0], v[1]);
                case 5: return range == null || !isWhich ? -1 : range[v[1]].node.number;
                case 6: return range == null || !isWhich ? -1 : range[v[1]].offset;
                case 7: {
                    Place[] other = range(v[2]);
                    boolean isOtherWhich = v[3] == 0 || v[3] == 1;
                    return range == null || !isWhich || other == null || !isOtherWhich ? -2
                        : order(range[v[1]], other[v[3]]);
                }
                case 8: return range == null ? -1 : lettersIn(range).size();
                case 9: {
                    if (range == null) {
                        return -1;
                    }
                    List<Integer> found = lettersIn(range);
                    return v[1] < 0 || v[1] >= found.size() ? -2 : found.get(v[1]);
                }
                default: {
                    Node held = node(v[1]);
                    return range == null || held == null ? -1 : isInside(range, held) ? 1 : 0;
                }
            }
        }
    }

    private static final String[] CHANGES = {
        "element", "text", "put", "take", "replace", "split", "join", "setStart", "setEnd", "erase",
    };
    private static final int[] CHANGE_ARGUMENTS = {0, 0, 3, 1, 4, 2, 1, 3, 3, 1};
    private static final String[] QUESTIONS = {
        "nodes", "kind", "size", "parent", "item", "nodeOf", "offsetOf", "compare", "letters",
        "letterIn", "holds",
    };
    private static final int[] QUESTION_ARGUMENTS = {0, 1, 1, 1, 2, 2, 2, 4, 1, 2, 2};

    private static long state = 20261115L;
    private static int wrong = 0;
    private static int refusals = 0;
    private static final int[] takenByErase = new int[24];

    private static int pick(int count) {
        state = state * 6364136223846793005L + 1442695040888963407L;
        return (int) ((state >>> 33) % count);
    }

    /** Now and then a number far out, else one from -1 to limit. */
    private static int near(int limit) {
        int far = pick(200);
        if (far == 0) {
            return Integer.MIN_VALUE;
        }
        if (far == 1) {
            return Integer.MAX_VALUE;
        }
        return far < 12 ? pick(limit + 2) - 1 : pick(Math.max(limit, 1));
    }

    private static int[] changeArguments(Model model, int change) {
        int count = model.nodes.size();
        int[] v = new int[4];
        if (change == 7 || change == 8) {
            v[0] = near(4);
            v[1] = pick(4) == 0 ? near(count) : someOfTree(model, v[0]);
            v[2] = near(sizeOr(model, v[1]) + 1);
        } else if (change == 9) {
            v[0] = near(4);
        } else {
            v[0] = change >= 4 && change <= 6 && pick(10) > 0 ? someOf(model, true) : near(count);
            if (change == 2) {
                v[0] = pick(10) > 0 ? someOf(model, false) : near(count);
                v[1] = near(count);
                v[2] = near(sizeOr(model, v[0]) + 1);
            } else {
                v[1] = near(sizeOr(model, v[0]) + 1);
                v[2] = near(6);
                int[] limits = {10, 100, 1000, 10000};
                v[3] = pick(12) == 0 ? 10000 : pick(5) == 0 ? -1 : near(limits[pick(4)]);
            }
        }
        return v;
    }

    private static int someOf(Model model, boolean isText) {
        int from = pick(model.nodes.size());
        for (int i = 0; i < model.nodes.size(); i++) {
            Node node = model.nodes.get((from + i) % model.nodes.size());
            if (node.isText == isText) {
                return node.number;
            }
        }
        return 0;
    }

    /** A node of the tree that a range is in, so that many ranges come to span more than one place. */
    private static int someOfTree(Model model, int r) {
        Place[] range = model.range(r);
        int from = pick(model.nodes.size());
        for (int i = 0; range != null && i < model.nodes.size(); i++) {
            Node node = model.nodes.get((from + i) % model.nodes.size());
            if (node.top() == range[0].node.top()) {
                return node.number;
            }
        }
        return 0;
    }

    private static int sizeOr(Model model, int number) {
        Node node = model.node(number);
        return node == null ? 3 : node.size();
    }

    private static int change(LiveRanges x, int change, int[] v) {
        switch (change) {
            case 0: return x.element();
            case 1: return x.text();
            case 2: return x.put(v[0], v[1], v[2]);
            case 3: return x.take(v[0]);
            case 4: return x.replace(v[0], v[1], v[2], v[3]);
            case 5: return x.split(v[0], v[1]);
            case 6: return x.join(v[0]);
            case 7: return x.setStart(v[0], v[1], v[2]);
            case 8: return x.setEnd(v[0], v[1], v[2]);
            default: return x.erase(v[0]);
        }
    }

    private static int change(Model m, int change, int[] v) {
        switch (change) {
            case 0: return m.make(false);
            case 1: return m.make(true);
            case 2: return m.put(v[0], v[1], v[2]);
            case 3: return m.take(v[0]);
            case 4: return m.replace(v[0], v[1], v[2], v[3]);
            case 5: return m.split(v[0], v[1]);
            case 6: return m.join(v[0]);
            case 7: return m.set(0, v[0], v[1], v[2]);
            case 8: return m.set(1, v[0], v[1], v[2]);
            default: return m.erase(v[0]);
        }
    }

    private static int ask(LiveRanges x, int question, int[] v) {
        switch (question) {
            case 0: return x.nodes();
            case 1: return x.kind(v[0]);
            case 2: return x.size(v[0]);
            case 3: return x.parent(v[0]);
            case 4: return x.item(v[0], v[1]);
            case 5: return x.nodeOf(v[0], v[1]);
            case 6: return x.offsetOf(v[0], v[1]);
            case 7: return x.compare(v[0], v[1], v[2], v[3]);
            case 8: return x.letters(v[0]);
            case 9: return x.letterIn(v[0], v[1]);
            default: return x.holds(v[0], v[1]);
        }
    }

    private static int[] questionArguments(Model model, int question) {
        int count = model.nodes.size();
        int[] v = new int[4];
        v[0] = near(question <= 4 ? count : 4);
        v[1] = near(question == 4 ? sizeOr(model, v[0]) : question == 9 ? 10 : question == 10 ? count : 2);
        v[2] = near(4);
        v[3] = near(2);
        return v;
    }

    private static void due(int run, int call, String name, int arguments, int[] v, int got, int want) {
        if (got == want) {
            return;
        }
        wrong++;
        StringBuilder told = new StringBuilder(name + "(");
        for (int i = 0; i < arguments; i++) {
            told.append(i == 0 ? "" : ", ").append(v[i]);
        }
        System.out.println("run " + run + ", call " + call + ": " + told + ") answered " + got
            + ", due is " + want);
    }

    private static int pickChange(Model model, int run) {
        int[] weights = {3, 3, 12, run % 3 == 0 ? 4 : 1, 8, 2, 3, 7, 7, run % 2 == 0 ? 4 : 1};
        if (model.nodes.size() < 6) {
            weights[0] = 12;
            weights[1] = 12;
        }
        int total = 0;
        for (int weight : weights) {
            total += weight;
        }
        int left = pick(total);
        for (int i = 0; i < weights.length; i++) {
            left -= weights[i];
            if (left < 0) {
                return i;
            }
        }
        return 0;
    }

    private static void run(int run) {
        LiveRanges x = new LiveRanges();
        Model model = new Model();
        for (int call = 1; call <= CALLS && wrong < 20; call++) {
            if (call % 16 < 8 && call < CALLS - 100) {
                int change = pickChange(model, run);
                int[] v = changeArguments(model, change);
                int want = change(model, change, v);
                due(run, call, CHANGES[change], CHANGE_ARGUMENTS[change], v, change(x, change, v), want);
                refusals += want < 0 ? 1 : 0;
                if (change == 9 && want >= 0) {
                    takenByErase[want]++;
                }
            } else {
                int question = pick(QUESTIONS.length);
                int[] v = questionArguments(model, question);
                int want = model.ask(question, v);
                due(run, call, QUESTIONS[question], QUESTION_ARGUMENTS[question], v, ask(x, question, v),
                    want);
            }
        }
    }

    public static void main(String[] args) {
        for (int run = 1; run <= RUNS && wrong == 0; run++) {
            run(run);
        }
        if (args.length > 0) {
            System.out.println(refusals + " refusals; erased " + java.util.Arrays.toString(takenByErase));
        }
        System.out.println(wrong == 0 ? "all answers are as due" : wrong + " answers are not as due");
        if (wrong != 0) {
            System.exit(1);
        }
    }
}
