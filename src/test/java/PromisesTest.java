/** For each promise of the document: ordinary inputs, the edges that it names, and wrong inputs. */
public final class PromisesTest {
    private static final int LEAST = Integer.MIN_VALUE;
    private static final int GREATEST = Integer.MAX_VALUE;

    private static int promise = 0;
    private static int wrong = 0;

    private static void due(String call, int got, int want) {
        if (got != want) {
            wrong++;
            System.out.println("promise " + promise + ": " + call + " answered " + got + ", due is " + want);
        }
    }

    /** All children or letters of a node. */
    private static void dueItems(String when, LiveRanges x, int node, int... want) {
        due(when + ": size(" + node + ")", x.size(node), want.length);
        for (int i = 0; i < want.length; i++) {
            due(when + ": item(" + node + ", " + i + ")", x.item(node, i), want[i]);
        }
    }

    private static void dueRange(String when, LiveRanges x, int range, int s, int a, int e, int b) {
        due(when + ": nodeOf(" + range + ", 0)", x.nodeOf(range, 0), s);
        due(when + ": offsetOf(" + range + ", 0)", x.offsetOf(range, 0), a);
        due(when + ": nodeOf(" + range + ", 1)", x.nodeOf(range, 1), e);
        due(when + ": offsetOf(" + range + ", 1)", x.offsetOf(range, 1), b);
    }

    private static void setRange(LiveRanges x, int range, int s, int a, int e, int b) {
        due("setStart(" + range + ", " + s + ", " + a + ")", x.setStart(range, s, a), 1);
        due("setEnd(" + range + ", " + e + ", " + b + ")", x.setEnd(range, e, b), 1);
        dueRange("as set", x, range, s, a, e, b);
    }

    /** Root 0 with children 1 (element), 2 (text 1234), 3 (element); 1 has 4 (text 56), 3 has 5 (text 78). */
    private static LiveRanges family() {
        LiveRanges x = new LiveRanges();
        x.element();
        x.text();
        x.element();
        x.text();
        x.text();
        x.put(0, 1, 0);
        x.put(0, 2, 1);
        x.put(0, 3, 2);
        x.put(1, 4, 0);
        x.put(3, 5, 0);
        x.replace(2, 0, 0, 1234);
        x.replace(4, 0, 0, 56);
        x.replace(5, 0, 0, 78);
        return x;
    }

    /** One text, node 1, the root's only child, with the letters 1234. */
    private static LiveRanges oneText() {
        LiveRanges x = new LiveRanges();
        x.text();
        x.put(0, 1, 0);
        x.replace(1, 0, 0, 1234);
        return x;
    }

    private static LiveRanges full() {
        LiveRanges x = new LiveRanges();
        for (int n = 1; n < 24; n++) {
            due("text()", x.text(), n);
        }
        return x;
    }

    private static void aNewObject() {
        promise = 1;
        LiveRanges x = new LiveRanges();
        due("nodes()", x.nodes(), 1);
        due("kind(0)", x.kind(0), 0);
        due("size(0)", x.size(0), 0);
        due("parent(0)", x.parent(0), -2);
        for (int range = 0; range < 4; range++) {
            dueRange("new", x, range, 0, 0, 0, 0);
        }
        LiveRanges y = new LiveRanges();
        x.element();
        due("nodes() of another object", y.nodes(), 1);
    }

    private static void element() {
        promise = 2;
        LiveRanges x = new LiveRanges();
        for (int n = 1; n < 24; n++) {
            due("element()", x.element(), n);
            due("kind", x.kind(n), 0);
            due("size", x.size(n), 0);
            due("parent", x.parent(n), -2);
        }
        due("element() with 24 nodes", x.element(), -2);
        due("nodes()", x.nodes(), 24);
        due("take(1)", x.take(1), -2);
        due("element() with 24 nodes, none given up", x.element(), -2);
    }

    private static void text() {
        promise = 3;
        LiveRanges x = new LiveRanges();
        for (int n = 1; n < 24; n++) {
            due("text()", x.text(), n);
            due("kind", x.kind(n), 1);
            due("size", x.size(n), 0);
            due("parent", x.parent(n), -2);
        }
        due("text() with 24 nodes", x.text(), -2);
        due("element() with 24 nodes", x.element(), -2);
        due("nodes()", x.nodes(), 24);
    }

    private static void put() {
        promise = 4;
        LiveRanges x = family();
        dueItems("as put", x, 0, 1, 2, 3);
        due("put(1, 2, 0)", x.put(1, 2, 0), 2);
        dueItems("new parent", x, 1, 2, 4);
        dueItems("old parent", x, 0, 1, 3);
        due("parent(2)", x.parent(2), 1);
        due("put(0, 2, 2)", x.put(0, 2, 2), 3);
        due("put(0, 2, 0)", x.put(0, 2, 0), 3);
        dueItems("to the front", x, 0, 2, 1, 3);
        due("put(0, 2, 1)", x.put(0, 2, 1), 3);
        dueItems("index counted without it", x, 0, 1, 2, 3);
        putRefused();
        putMoves();
    }

    private static void putRefused() {
        LiveRanges x = family();
        due("put(2, 1, 0), a text as parent", x.put(2, 1, 0), -1);
        due("put(6, 1, 0)", x.put(6, 1, 0), -1);
        due("put(-1, 1, 0)", x.put(-1, 1, 0), -1);
        due("put(0, 6, 0)", x.put(0, 6, 0), -1);
        due("put(0, -1, 0)", x.put(0, -1, 0), -1);
        due("put(2, 0, 9)", x.put(2, 0, 9), -1);
        due("put(LEAST, GREATEST, 0)", x.put(LEAST, GREATEST, 0), -1);
        due("put(1, 0, 0), the root as child", x.put(1, 0, 0), -2);
        due("put(0, 0, 0)", x.put(0, 0, 0), -2);
        due("put(1, 1, 0), into itself", x.put(1, 1, 0), -2);
        due("put(1, 1, 9)", x.put(1, 1, 9), -2);
        due("put(3, 1, 1)", x.put(3, 1, 1), 2);
        due("put(1, 3, 0), into a child", x.put(1, 3, 0), -2);
        due("element()", x.element(), 6);
        due("put(1, 6, 1)", x.put(1, 6, 1), 2);
        due("put(6, 3, 0), into a child's child", x.put(6, 3, 0), -2);
        due("put(3, 2, -1)", x.put(3, 2, -1), -3);
        due("put(3, 2, 3)", x.put(3, 2, 3), -3);
        due("put(3, 2, GREATEST)", x.put(3, 2, GREATEST), -3);
        dueItems("nothing changed", x, 0, 2, 3);
        dueItems("nothing changed", x, 3, 5, 1);
        dueItems("nothing changed", x, 1, 4, 6);
    }

    private static void putMoves() {
        LiveRanges x = family();
        due("text()", x.text(), 6);
        setRange(x, 0, 0, 1, 0, 2);
        setRange(x, 1, 0, 0, 0, 3);
        due("put(0, 6, 1)", x.put(0, 6, 1), 4);
        dueRange("start stays ahead of what is put in there", x, 0, 0, 1, 0, 3);
        dueRange("around it", x, 1, 0, 0, 0, 4);
        x = family();
        setRange(x, 0, 4, 1, 4, 2);
        setRange(x, 1, 0, 1, 0, 3);
        setRange(x, 2, 3, 0, 3, 1);
        due("put(3, 1, 0)", x.put(3, 1, 0), 2);
        dueRange("what was below it stays behind", x, 0, 0, 0, 0, 0);
        dueRange("old parent", x, 1, 0, 0, 0, 2);
        dueRange("new parent", x, 2, 3, 0, 3, 2);
        x = family();
        setRange(x, 0, 2, 1, 2, 3);
        due("put(0, 2, 1), where it was", x.put(0, 2, 1), 3);
        dueRange("taken out all the same", x, 0, 0, 1, 0, 1);
        x = family();
        due("text()", x.text(), 6);
        due("replace", x.replace(6, 0, 0, 99), 2);
        setRange(x, 0, 6, 1, 6, 2);
        due("put(0, 6, 0)", x.put(0, 6, 0), 4);
        dueRange("what has no parent takes its places along", x, 0, 6, 1, 6, 2);
    }

    private static void take() {
        promise = 5;
        LiveRanges x = family();
        setRange(x, 0, 4, 1, 5, 1);
        setRange(x, 1, 2, 0, 2, 4);
        setRange(x, 2, 0, 1, 0, 2);
        setRange(x, 3, 0, 0, 0, 3);
        due("take(2)", x.take(2), 1);
        due("parent(2)", x.parent(2), -2);
        dueItems("without it", x, 0, 1, 3);
        dueItems("its letters stay", x, 2, 1, 2, 3, 4);
        dueRange("elsewhere", x, 0, 4, 1, 5, 1);
        dueRange("in it", x, 1, 0, 1, 0, 1);
        dueRange("around it", x, 2, 0, 1, 0, 1);
        dueRange("around all", x, 3, 0, 0, 0, 2);
        due("take(1)", x.take(1), 0);
        dueRange("below it, and behind it", x, 0, 0, 0, 5, 1);
        due("parent(4)", x.parent(4), 1);
        due("take(2) again", x.take(2), -2);
        due("take(0)", x.take(0), -2);
        due("take(6)", x.take(6), -1);
        due("take(-1)", x.take(-1), -1);
        due("take(GREATEST)", x.take(GREATEST), -1);
        dueItems("after refusals", x, 0, 3);
    }

    private static void replace() {
        promise = 6;
        LiveRanges x = oneText();
        dueItems("digits in their order", x, 1, 1, 2, 3, 4);
        due("replace(1, 1, 2, 0)", x.replace(1, 1, 2, 0), 3);
        dueItems("0 is one letter", x, 1, 1, 0, 4);
        due("replace(1, 1, 1, -1)", x.replace(1, 1, 1, -1), 2);
        dueItems("-1 is none", x, 1, 1, 4);
        due("replace(1, 1, 0, 10)", x.replace(1, 1, 0, 10), 4);
        due("replace(1, 0, 1, 100)", x.replace(1, 0, 1, 100), 6);
        due("replace(1, 6, 5, 1000)", x.replace(1, 6, 5, 1000), 10);
        dueItems("digit counts", x, 1, 1, 0, 0, 1, 0, 4, 1, 0, 0, 0);
        due("replace(1, 10, 0, 99)", x.replace(1, 10, 0, 99), 12);
        due("replace(1, 12, 0, 9), a 13th", x.replace(1, 12, 0, 9), -4);
        due("replace(1, 12, 0, -1)", x.replace(1, 12, 0, -1), 12);
        due("replace(1, 0, 3, 9999), 13 then", x.replace(1, 0, 3, 9999), -4);
        due("replace(1, 11, GREATEST, 99), 13 then", x.replace(1, 11, GREATEST, 99), -4);
        due("replace(1, 11, GREATEST, 7)", x.replace(1, 11, GREATEST, 7), 12);
        due("replace(1, 0, 4, 9999)", x.replace(1, 0, 4, 9999), 12);
        dueItems("full", x, 1, 9, 9, 9, 9, 0, 4, 1, 0, 0, 0, 9, 7);
        due("replace(1, 2, GREATEST, -1)", x.replace(1, 2, GREATEST, -1), 2);
        dueItems("a great c is all from a on", x, 1, 9, 9);
        replaceRefused();
        replaceMoves();
    }

    private static void replaceRefused() {
        LiveRanges x = family();
        due("replace(1, 0, 0, 1), an element", x.replace(1, 0, 0, 1), -1);
        due("replace(6, 0, 0, 1)", x.replace(6, 0, 0, 1), -1);
        due("replace(-1, 9, -9, -9)", x.replace(-1, 9, -9, -9), -1);
        due("replace(2, -1, 0, 1)", x.replace(2, -1, 0, 1), -2);
        due("replace(2, 5, 0, 1)", x.replace(2, 5, 0, 1), -2);
        due("replace(2, 0, -1, 1)", x.replace(2, 0, -1, 1), -2);
        due("replace(2, 0, LEAST, 10000)", x.replace(2, 0, LEAST, 10000), -2);
        due("replace(2, 0, 0, 10000)", x.replace(2, 0, 0, 10000), -3);
        due("replace(2, 0, 0, -2)", x.replace(2, 0, 0, -2), -3);
        due("replace(2, 0, 0, GREATEST)", x.replace(2, 0, 0, GREATEST), -3);
        due("replace(2, 0, 0, LEAST)", x.replace(2, 0, 0, LEAST), -3);
        dueItems("nothing changed", x, 2, 1, 2, 3, 4);
        due("replace(2, 0, 0, 1111)", x.replace(2, 0, 0, 1111), 8);
        due("replace(2, 0, 0, 1111)", x.replace(2, 0, 0, 1111), 12);
        due("replace(2, 0, 0, 10000), -3 ahead of -4", x.replace(2, 0, 0, 10000), -3);
    }

    private static void replaceMoves() {
        LiveRanges x = oneText();
        setRange(x, 0, 1, 1, 1, 2);
        setRange(x, 1, 1, 3, 1, 4);
        setRange(x, 2, 0, 0, 0, 1);
        setRange(x, 3, 1, 0, 1, 0);
        due("replace(1, 1, 2, 789)", x.replace(1, 1, 2, 789), 5);
        dueRange("below a", x, 3, 1, 0, 1, 0);
        dueRange("at a, and above a", x, 0, 1, 1, 1, 1);
        dueRange("at a + c, and above that", x, 1, 1, 1, 1, 5);
        dueRange("elsewhere", x, 2, 0, 0, 0, 1);
        x = oneText();
        setRange(x, 0, 1, 2, 1, 3);
        due("replace(1, 2, 0, 55)", x.replace(1, 2, 0, 55), 6);
        dueRange("put in at the start", x, 0, 1, 2, 1, 5);
        x = oneText();
        setRange(x, 0, 1, 2, 1, 4);
        due("replace(1, 0, 3, -1)", x.replace(1, 0, 3, -1), 1);
        dueRange("what slides is not gathered", x, 0, 1, 0, 1, 1);
        x = oneText();
        setRange(x, 0, 1, 0, 1, 4);
        due("replace(1, 2, 99, 5)", x.replace(1, 2, 99, 5), 3);
        dueRange("with a c too great", x, 0, 1, 0, 1, 2);
    }

    private static void split() {
        promise = 7;
        LiveRanges x = family();
        setRange(x, 0, 2, 1, 2, 3);
        setRange(x, 1, 0, 2, 0, 3);
        setRange(x, 2, 0, 1, 2, 2);
        setRange(x, 3, 2, 4, 5, 1);
        due("split(2, 2)", x.split(2, 2), 6);
        dueItems("put in behind", x, 0, 1, 2, 6, 3);
        dueItems("first part", x, 2, 1, 2);
        dueItems("second part", x, 6, 3, 4);
        due("kind(6)", x.kind(6), 1);
        due("parent(6)", x.parent(6), 0);
        dueRange("across", x, 0, 2, 1, 6, 1);
        dueRange("behind the text, and further", x, 1, 0, 3, 0, 4);
        dueRange("ahead of it, and at o", x, 2, 0, 1, 2, 2);
        dueRange("at its end", x, 3, 6, 2, 5, 1);
        due("split(6, 0)", x.split(6, 0), 7);
        dueItems("all go", x, 6);
        dueItems("all came", x, 7, 3, 4);
        dueRange("at its end", x, 3, 7, 2, 5, 1);
        due("split(7, 2)", x.split(7, 2), 8);
        dueItems("none go", x, 7, 3, 4);
        dueItems("none came", x, 8);
        dueItems("children", x, 0, 1, 2, 6, 7, 8, 3);
        splitWithoutParent();
        splitRefused();
    }

    private static void splitWithoutParent() {
        LiveRanges x = new LiveRanges();
        due("text()", x.text(), 1);
        due("replace(1, 0, 0, 1234)", x.replace(1, 0, 0, 1234), 4);
        setRange(x, 0, 1, 1, 1, 4);
        setRange(x, 1, 1, 3, 1, 3);
        setRange(x, 2, 1, 2, 1, 2);
        due("split(1, 2)", x.split(1, 2), 2);
        due("parent(2)", x.parent(2), -2);
        due("parent(1)", x.parent(1), -2);
        dueItems("first part", x, 1, 1, 2);
        dueItems("second part", x, 2, 3, 4);
        dueRange("behind o", x, 0, 1, 1, 1, 2);
        dueRange("both behind o", x, 1, 1, 2, 1, 2);
        dueRange("at o", x, 2, 1, 2, 1, 2);
    }

    private static void splitRefused() {
        LiveRanges x = family();
        due("split(1, 0), an element", x.split(1, 0), -1);
        due("split(6, 0)", x.split(6, 0), -1);
        due("split(-1, -1)", x.split(-1, -1), -1);
        due("split(2, -1)", x.split(2, -1), -2);
        due("split(2, 5)", x.split(2, 5), -2);
        due("split(2, GREATEST)", x.split(2, GREATEST), -2);
        due("nodes()", x.nodes(), 6);
        x = full();
        due("split(1, 0) with 24 nodes", x.split(1, 0), -3);
        due("split(1, 1) with 24 nodes", x.split(1, 1), -2);
        due("split(0, 0) with 24 nodes", x.split(0, 0), -1);
        due("nodes()", x.nodes(), 24);
    }

    private static void join() {
        promise = 8;
        LiveRanges x = family();
        due("put(0, 5, 2)", x.put(0, 5, 2), 4);
        dueItems("ahead", x, 0, 1, 2, 5, 3);
        setRange(x, 0, 5, 0, 5, 1);
        setRange(x, 1, 0, 2, 0, 3);
        setRange(x, 2, 2, 3, 5, 2);
        setRange(x, 3, 0, 1, 0, 4);
        due("join(2)", x.join(2), 5);
        dueItems("letters", x, 2, 1, 2, 3, 4, 7, 8);
        dueItems("without letters", x, 5);
        dueItems("children", x, 0, 1, 2, 3);
        due("parent(5)", x.parent(5), -2);
        dueRange("in the second", x, 0, 2, 4, 2, 5);
        dueRange("between them, and behind both", x, 1, 2, 4, 0, 2);
        dueRange("from one to the other", x, 2, 2, 3, 2, 6);
        dueRange("around", x, 3, 0, 1, 0, 3);
        joinRefused();
    }

    private static void joinRefused() {
        LiveRanges x = family();
        due("join(1), an element", x.join(1), -1);
        due("join(6)", x.join(6), -1);
        due("join(-1)", x.join(-1), -1);
        due("join(2), an element next", x.join(2), -2);
        due("join(4), none next", x.join(4), -2);
        due("text()", x.text(), 6);
        due("join(6), no parent", x.join(6), -2);
        due("put(0, 6, 2)", x.put(0, 6, 2), 4);
        due("replace(6, 0, 0, 1111)", x.replace(6, 0, 0, 1111), 4);
        due("replace(6, 0, 0, 2222)", x.replace(6, 0, 0, 2222), 8);
        due("replace(6, 0, 0, 3)", x.replace(6, 0, 0, 3), 9);
        due("join(2), 13 letters", x.join(2), -3);
        dueItems("nothing changed", x, 0, 1, 2, 6, 3);
        due("size(2)", x.size(2), 4);
        due("size(6)", x.size(6), 9);
        due("replace(6, 0, 1, -1)", x.replace(6, 0, 1, -1), 8);
        due("join(2), 12 letters", x.join(2), 6);
        dueItems("full", x, 2, 1, 2, 3, 4, 2, 2, 2, 2, 1, 1, 1, 1);
        x = oneText();
        due("split(1, 2)", x.split(1, 2), 2);
        due("take(2)", x.take(2), 1);
        due("join(1), the next one was taken out", x.join(1), -2);
        dueItems("nothing changed", x, 1, 1, 2);
    }

    private static void setStart() {
        promise = 9;
        LiveRanges x = family();
        due("setStart(0, 2, 2)", x.setStart(0, 2, 2), 1);
        dueRange("the end was before it", x, 0, 2, 2, 2, 2);
        due("setEnd(0, 5, 2)", x.setEnd(0, 5, 2), 1);
        due("setStart(0, 4, 0)", x.setStart(0, 4, 0), 1);
        dueRange("the end is behind it", x, 0, 4, 0, 5, 2);
        due("setStart(0, 3, 1)", x.setStart(0, 3, 1), 1);
        dueRange("directly behind the end's text", x, 0, 3, 1, 3, 1);
        due("text()", x.text(), 6);
        due("setStart(0, 6, 0)", x.setStart(0, 6, 0), 1);
        dueRange("another tree", x, 0, 6, 0, 6, 0);
        due("setStart(3, 0, 3)", x.setStart(3, 0, 3), 1);
        dueRange("range 3", x, 3, 0, 3, 0, 3);
        due("setStart(4, 0, 0)", x.setStart(4, 0, 0), -1);
        due("setStart(-1, 0, 9)", x.setStart(-1, 0, 9), -1);
        due("setStart(GREATEST, 0, 0)", x.setStart(GREATEST, 0, 0), -1);
        due("setStart(3, 7, 0)", x.setStart(3, 7, 0), -1);
        due("setStart(3, -1, -1)", x.setStart(3, -1, -1), -1);
        due("setStart(3, 0, 4)", x.setStart(3, 0, 4), -2);
        due("setStart(3, 0, -1)", x.setStart(3, 0, -1), -2);
        due("setStart(3, 2, 5)", x.setStart(3, 2, 5), -2);
        due("setStart(3, 2, GREATEST)", x.setStart(3, 2, GREATEST), -2);
        dueRange("after refusals", x, 3, 0, 3, 0, 3);
    }

    private static void setEnd() {
        promise = 10;
        LiveRanges x = family();
        due("setEnd(0, 5, 2)", x.setEnd(0, 5, 2), 1);
        dueRange("the start is before it", x, 0, 0, 0, 5, 2);
        due("setStart(0, 2, 2)", x.setStart(0, 2, 2), 1);
        due("setEnd(0, 2, 2)", x.setEnd(0, 2, 2), 1);
        dueRange("the same place", x, 0, 2, 2, 2, 2);
        due("setEnd(0, 2, 1)", x.setEnd(0, 2, 1), 1);
        dueRange("the start was behind it", x, 0, 2, 1, 2, 1);
        due("setEnd(0, 0, 1)", x.setEnd(0, 0, 1), 1);
        dueRange("directly ahead of the start's text", x, 0, 0, 1, 0, 1);
        due("text()", x.text(), 6);
        due("setEnd(0, 6, 0)", x.setEnd(0, 6, 0), 1);
        dueRange("another tree", x, 0, 6, 0, 6, 0);
        due("setEnd(3, 0, 3)", x.setEnd(3, 0, 3), 1);
        dueRange("range 3", x, 3, 0, 0, 0, 3);
        due("setEnd(4, 0, 0)", x.setEnd(4, 0, 0), -1);
        due("setEnd(-1, 0, 9)", x.setEnd(-1, 0, 9), -1);
        due("setEnd(LEAST, 0, 0)", x.setEnd(LEAST, 0, 0), -1);
        due("setEnd(3, 7, 0)", x.setEnd(3, 7, 0), -1);
        due("setEnd(3, -1, -1)", x.setEnd(3, -1, -1), -1);
        due("setEnd(3, 0, 4)", x.setEnd(3, 0, 4), -2);
        due("setEnd(3, 0, -1)", x.setEnd(3, 0, -1), -2);
        due("setEnd(3, 2, 5)", x.setEnd(3, 2, 5), -2);
        dueRange("after refusals", x, 3, 0, 0, 0, 3);
    }

    private static void erase() {
        promise = 11;
        LiveRanges x = family();
        due("erase(4)", x.erase(4), -1);
        due("erase(-1)", x.erase(-1), -1);
        due("erase(GREATEST)", x.erase(GREATEST), -1);
        setRange(x, 0, 0, 1, 0, 1);
        due("erase(0) of nothing", x.erase(0), 0);
        dueItems("nothing changed", x, 0, 1, 2, 3);
        eraseInText();
        eraseAmongChildren();
        eraseAcross();
        eraseUpwards();
        eraseDownwards();
        eraseMovesOthers();
    }

    private static void eraseInText() {
        LiveRanges x = oneText();
        setRange(x, 0, 1, 1, 1, 3);
        setRange(x, 1, 1, 2, 1, 4);
        due("erase(0)", x.erase(0), 0);
        dueItems("in one text", x, 1, 1, 4);
        dueRange("this one", x, 0, 1, 1, 1, 1);
        dueRange("another one", x, 1, 1, 1, 1, 2);
    }

    private static void eraseAmongChildren() {
        LiveRanges x = family();
        setRange(x, 0, 0, 1, 0, 3);
        due("erase(0)", x.erase(0), 2);
        dueItems("two children", x, 0, 1);
        dueRange("at the start", x, 0, 0, 1, 0, 1);
        due("parent(2)", x.parent(2), -2);
        due("parent(3)", x.parent(3), -2);
        due("parent(5), below one taken out", x.parent(5), 3);
        due("size(5)", x.size(5), 2);
        due("size(2)", x.size(2), 4);
    }

    private static void eraseAcross() {
        LiveRanges x = family();
        setRange(x, 0, 4, 1, 5, 1);
        due("erase(0)", x.erase(0), 1);
        dueItems("the middle is gone", x, 0, 1, 3);
        dueItems("start's text", x, 4, 5);
        dueItems("end's text", x, 5, 8);
        dueItems("what was taken out is whole", x, 2, 1, 2, 3, 4);
        dueRange("behind the start's branch", x, 0, 0, 1, 0, 1);
        x = family();
        setRange(x, 0, 1, 1, 3, 0);
        due("erase(0)", x.erase(0), 1);
        dueItems("the start's element stays", x, 1, 4);
        dueItems("the end's element stays", x, 3, 5);
        dueRange("behind the start's branch", x, 0, 0, 1, 0, 1);
        x = family();
        setRange(x, 0, 1, 0, 2, 2);
        due("erase(0)", x.erase(0), 1);
        dueItems("no children left", x, 1);
        dueItems("letters left", x, 2, 3, 4);
        dueRange("behind the emptied element", x, 0, 0, 1, 0, 1);
        x = family();
        due("text()", x.text(), 6);
        due("put(1, 6, 1)", x.put(1, 6, 1), 2);
        setRange(x, 0, 4, 0, 6, 0);
        due("erase(0)", x.erase(0), 0);
        dueItems("the first text is empty", x, 4);
        dueRange("between the texts", x, 0, 1, 1, 1, 1);
    }

    private static void eraseUpwards() {
        LiveRanges x = family();
        setRange(x, 0, 4, 1, 0, 2);
        due("erase(0)", x.erase(0), 1);
        dueItems("children", x, 0, 1, 3);
        dueItems("start's text", x, 4, 5);
        dueRange("the end's node has the start below it", x, 0, 0, 1, 0, 1);
        x = family();
        setRange(x, 0, 4, 1, 1, 1);
        due("erase(0)", x.erase(0), 0);
        dueItems("start's text", x, 4, 5);
        dueRange("the end's node is the start's parent", x, 0, 1, 1, 1, 1);
    }

    private static void eraseDownwards() {
        LiveRanges x = family();
        setRange(x, 0, 0, 1, 5, 1);
        due("erase(0)", x.erase(0), 1);
        dueItems("children", x, 0, 1, 3);
        dueItems("end's text", x, 5, 8);
        dueRange("the end is below the start's node", x, 0, 0, 1, 0, 1);
        x = family();
        setRange(x, 0, 3, 0, 5, 0);
        due("erase(0)", x.erase(0), 0);
        dueItems("nothing in it", x, 5, 7, 8);
        dueRange("the start stays", x, 0, 3, 0, 3, 0);
    }

    private static void eraseMovesOthers() {
        LiveRanges x = family();
        setRange(x, 0, 4, 1, 5, 1);
        setRange(x, 1, 2, 1, 2, 3);
        setRange(x, 2, 4, 2, 5, 2);
        setRange(x, 3, 0, 1, 0, 3);
        due("erase(0)", x.erase(0), 1);
        dueRange("in what was taken out", x, 1, 0, 1, 0, 1);
        dueRange("in the cut texts", x, 2, 4, 1, 5, 1);
        dueRange("around what was taken out", x, 3, 0, 1, 0, 2);
    }

    private static void nodes() {
        promise = 12;
        LiveRanges x = family();
        due("nodes()", x.nodes(), 6);
        due("take(2)", x.take(2), 1);
        due("nodes() after a take", x.nodes(), 6);
        due("split(2, 1)", x.split(2, 1), 6);
        due("nodes() after a split", x.nodes(), 7);
        due("nodes() of a full one", full().nodes(), 24);
    }

    private static void kind() {
        promise = 13;
        LiveRanges x = family();
        due("kind(1)", x.kind(1), 0);
        due("kind(2)", x.kind(2), 1);
        due("kind(6)", x.kind(6), -1);
        due("kind(-1)", x.kind(-1), -1);
        due("kind(24)", full().kind(24), -1);
        due("kind(23)", full().kind(23), 1);
        due("kind(GREATEST)", x.kind(GREATEST), -1);
        due("kind(LEAST)", x.kind(LEAST), -1);
    }

    private static void size() {
        promise = 14;
        LiveRanges x = family();
        due("size(0)", x.size(0), 3);
        due("size(1)", x.size(1), 1);
        due("size(2)", x.size(2), 4);
        due("size(6)", x.size(6), -1);
        due("size(-1)", x.size(-1), -1);
        due("size(GREATEST)", x.size(GREATEST), -1);
        LiveRanges y = full();
        for (int n = 1; n < 24; n++) {
            due("put", y.put(0, n, 0), n);
        }
        due("size(0) with all others as children", y.size(0), 23);
        due("item(0, 22)", y.item(0, 22), 1);
        due("put(0, 1, 0)", y.put(0, 1, 0), 23);
        due("item(0, 0)", y.item(0, 0), 1);
        due("item(0, 22)", y.item(0, 22), 2);
    }

    private static void parent() {
        promise = 15;
        LiveRanges x = family();
        due("parent(1)", x.parent(1), 0);
        due("parent(5)", x.parent(5), 3);
        due("parent(0)", x.parent(0), -2);
        due("text()", x.text(), 6);
        due("parent(6)", x.parent(6), -2);
        due("parent(7)", x.parent(7), -1);
        due("parent(-1)", x.parent(-1), -1);
        due("parent(LEAST)", x.parent(LEAST), -1);
    }

    private static void item() {
        promise = 16;
        LiveRanges x = family();
        due("item(0, 0)", x.item(0, 0), 1);
        due("item(0, 2)", x.item(0, 2), 3);
        due("item(2, 0)", x.item(2, 0), 1);
        due("item(2, 3)", x.item(2, 3), 4);
        due("item(0, 3)", x.item(0, 3), -2);
        due("item(0, -1)", x.item(0, -1), -2);
        due("item(2, 4)", x.item(2, 4), -2);
        due("item(2, GREATEST)", x.item(2, GREATEST), -2);
        due("item(2, LEAST)", x.item(2, LEAST), -2);
        due("item(6, 0)", x.item(6, 0), -1);
        due("item(-1, -1)", x.item(-1, -1), -1);
        due("item(GREATEST, 0)", x.item(GREATEST, 0), -1);
    }

    private static void nodeOf() {
        promise = 17;
        LiveRanges x = family();
        setRange(x, 3, 4, 1, 5, 2);
        due("nodeOf(3, 0)", x.nodeOf(3, 0), 4);
        due("nodeOf(3, 1)", x.nodeOf(3, 1), 5);
        due("nodeOf(2, 1)", x.nodeOf(2, 1), 0);
        due("nodeOf(4, 0)", x.nodeOf(4, 0), -1);
        due("nodeOf(-1, 0)", x.nodeOf(-1, 0), -1);
        due("nodeOf(0, 2)", x.nodeOf(0, 2), -1);
        due("nodeOf(0, -1)", x.nodeOf(0, -1), -1);
        due("nodeOf(GREATEST, LEAST)", x.nodeOf(GREATEST, LEAST), -1);
    }

    private static void offsetOf() {
        promise = 18;
        LiveRanges x = family();
        setRange(x, 3, 4, 1, 5, 2);
        due("offsetOf(3, 0)", x.offsetOf(3, 0), 1);
        due("offsetOf(3, 1)", x.offsetOf(3, 1), 2);
        due("offsetOf(2, 1)", x.offsetOf(2, 1), 0);
        due("offsetOf(4, 0)", x.offsetOf(4, 0), -1);
        due("offsetOf(-1, 0)", x.offsetOf(-1, 0), -1);
        due("offsetOf(0, 2)", x.offsetOf(0, 2), -1);
        due("offsetOf(0, -1)", x.offsetOf(0, -1), -1);
        due("offsetOf(GREATEST, LEAST)", x.offsetOf(GREATEST, LEAST), -1);
    }

    private static void compare() {
        promise = 19;
        LiveRanges x = family();
        int[][] inOrder = {
            {0, 0}, {1, 0}, {4, 0}, {4, 1}, {4, 2}, {1, 1}, {0, 1}, {2, 0}, {2, 4}, {0, 2}, {3, 0},
            {5, 0}, {5, 2}, {3, 1}, {0, 3},
        };
        for (int i = 0; i + 1 < inOrder.length; i++) {
            setRange(x, 0, inOrder[i][0], inOrder[i][1], inOrder[i + 1][0], inOrder[i + 1][1]);
            due("compare(0, 0, 0, 1) at " + i, x.compare(0, 0, 0, 1), -1);
            due("compare(0, 1, 0, 0) at " + i, x.compare(0, 1, 0, 0), 1);
            due("compare(0, 0, 0, 0) at " + i, x.compare(0, 0, 0, 0), 0);
        }
        compareRanges();
    }

    private static void compareRanges() {
        LiveRanges x = family();
        setRange(x, 1, 2, 1, 2, 3);
        setRange(x, 2, 2, 3, 5, 0);
        due("compare(1, 1, 2, 0)", x.compare(1, 1, 2, 0), 0);
        due("compare(1, 0, 2, 1)", x.compare(1, 0, 2, 1), -1);
        due("compare(2, 1, 1, 1)", x.compare(2, 1, 1, 1), 1);
        due("text()", x.text(), 6);
        due("setStart(3, 6, 0)", x.setStart(3, 6, 0), 1);
        due("compare(3, 0, 1, 0)", x.compare(3, 0, 1, 0), 2);
        due("compare(1, 0, 3, 1)", x.compare(1, 0, 3, 1), 2);
        due("put(0, 6, 3)", x.put(0, 6, 3), 4);
        due("compare(3, 0, 1, 0), one tree now", x.compare(3, 0, 1, 0), 1);
        due("compare(4, 0, 0, 0)", x.compare(4, 0, 0, 0), -2);
        due("compare(-1, 0, 0, 0)", x.compare(-1, 0, 0, 0), -2);
        due("compare(0, 2, 0, 0)", x.compare(0, 2, 0, 0), -2);
        due("compare(0, -1, 0, 0)", x.compare(0, -1, 0, 0), -2);
        due("compare(0, 0, 4, 0)", x.compare(0, 0, 4, 0), -2);
        due("compare(0, 0, -1, 0)", x.compare(0, 0, -1, 0), -2);
        due("compare(0, 0, 0, 2)", x.compare(0, 0, 0, 2), -2);
        due("compare(0, 0, 0, -1)", x.compare(0, 0, 0, -1), -2);
        due("compare(GREATEST, LEAST, GREATEST, LEAST)", x.compare(GREATEST, LEAST, GREATEST, LEAST), -2);
    }

    private static void letters() {
        promise = 20;
        LiveRanges x = family();
        due("letters(0) of nothing", x.letters(0), 0);
        setRange(x, 0, 0, 0, 0, 3);
        due("letters(0) of all", x.letters(0), 8);
        setRange(x, 1, 4, 1, 5, 1);
        due("letters(1) across", x.letters(1), 6);
        setRange(x, 2, 2, 1, 2, 3);
        due("letters(2) in a text", x.letters(2), 2);
        setRange(x, 3, 4, 2, 2, 0);
        due("letters(3) between texts", x.letters(3), 0);
        due("letters(4)", x.letters(4), -1);
        due("letters(-1)", x.letters(-1), -1);
        due("letters(GREATEST)", x.letters(GREATEST), -1);
        lettersOfAFullTree();
    }

    private static void lettersOfAFullTree() {
        LiveRanges x = full();
        for (int n = 1; n < 24; n++) {
            x.put(0, n, n - 1);
            x.replace(n, 0, 0, 1111);
            x.replace(n, 0, 0, 2222);
            x.replace(n, 0, 0, 3333);
        }
        setRange(x, 0, 0, 0, 0, 23);
        due("letters(0) of 23 full texts", x.letters(0), 276);
        due("letterIn(0, 275)", x.letterIn(0, 275), 1);
        due("letterIn(0, 276)", x.letterIn(0, 276), -2);
        due("holds(0, 23)", x.holds(0, 23), 1);
        due("erase(0)", x.erase(0), 23);
        due("size(0)", x.size(0), 0);
        LiveRanges deep = new LiveRanges();
        for (int n = 1; n < 24; n++) {
            deep.element();
            due("put", deep.put(n - 1, n, 0), 1);
        }
        due("put(23, 1, 0), below it", deep.put(23, 1, 0), -2);
        setRange(deep, 0, 0, 0, 23, 0);
        due("compare in a deep tree", deep.compare(0, 0, 0, 1), -1);
        setRange(deep, 1, 23, 0, 0, 1);
        due("erase(1)", deep.erase(1), 0);
        dueRange("in a deep tree", deep, 1, 0, 1, 0, 1);
    }

    private static void letterIn() {
        promise = 21;
        LiveRanges x = family();
        due("letterIn(0, 0) of nothing", x.letterIn(0, 0), -2);
        setRange(x, 0, 4, 1, 5, 1);
        int[] want = {6, 1, 2, 3, 4, 7};
        for (int k = 0; k < want.length; k++) {
            due("letterIn(0, " + k + ")", x.letterIn(0, k), want[k]);
        }
        due("letterIn(0, 6)", x.letterIn(0, 6), -2);
        due("letterIn(0, -1)", x.letterIn(0, -1), -2);
        due("letterIn(0, GREATEST)", x.letterIn(0, GREATEST), -2);
        due("letterIn(0, LEAST)", x.letterIn(0, LEAST), -2);
        due("letterIn(4, 0)", x.letterIn(4, 0), -1);
        due("letterIn(-1, 0)", x.letterIn(-1, 0), -1);
        due("replace(2, 0, 4, 0)", x.replace(2, 0, 4, 0), 1);
        due("letterIn(0, 1), a letter 0", x.letterIn(0, 1), 0);
    }

    private static void holds() {
        promise = 22;
        LiveRanges x = family();
        setRange(x, 0, 0, 1, 0, 3);
        int[] want = {0, 0, 1, 1, 0, 1};
        for (int n = 0; n < want.length; n++) {
            due("holds(0, " + n + ")", x.holds(0, n), want[n]);
        }
        setRange(x, 1, 2, 0, 2, 4);
        due("holds(1, 2), all its letters but no mark", x.holds(1, 2), 0);
        setRange(x, 1, 2, 0, 0, 2);
        due("holds(1, 2), its closing mark alone", x.holds(1, 2), 0);
        setRange(x, 1, 0, 1, 2, 4);
        due("holds(1, 2), its opening mark alone", x.holds(1, 2), 0);
        setRange(x, 1, 4, 2, 3, 0);
        due("holds(1, 2)", x.holds(1, 2), 1);
        due("text()", x.text(), 6);
        due("holds(0, 6), another tree", x.holds(0, 6), 0);
        due("take(2)", x.take(2), 1);
        due("holds(0, 2), another tree now", x.holds(0, 2), 0);
        due("holds(0, 7)", x.holds(0, 7), -1);
        due("holds(0, -1)", x.holds(0, -1), -1);
        due("holds(4, 0)", x.holds(4, 0), -1);
        due("holds(-1, 0)", x.holds(-1, 0), -1);
        due("holds(LEAST, GREATEST)", x.holds(LEAST, GREATEST), -1);
    }

    private static void orderAndLimits() {
        promise = 23;
        LiveRanges x = family();
        due("put(0, 1, 3), without it there are 2", x.put(0, 1, 3), -3);
        dueItems("nothing changed", x, 0, 1, 2, 3);
        due("put(0, 1, 2)", x.put(0, 1, 2), 3);
        dueItems("to the end", x, 0, 2, 3, 1);
        due("put(0, 4, 4)", x.put(0, 4, 4), -3);
        due("put(0, 4, 3), not yet one of them", x.put(0, 4, 3), 4);
        dueItems("at the end", x, 0, 2, 3, 1, 4);
    }

    public static void main(String[] args) {
        aNewObject();
        element();
        text();
        put();
        take();
        replace();
        split();
        join();
        setStart();
        setEnd();
        erase();
        nodes();
        kind();
        size();
        parent();
        item();
        nodeOf();
        offsetOf();
        compare();
        letters();
        letterIn();
        holds();
        orderAndLimits();
        System.out.println(wrong == 0 ? "all answers are as due" : wrong + " answers are not as due");
        if (wrong != 0) {
            System.exit(1);
        }
    }
}
