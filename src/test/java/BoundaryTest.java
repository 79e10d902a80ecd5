import java.lang.reflect.InvocationTargetException;
import java.lang.reflect.Method;
import java.lang.reflect.Modifier;
import java.util.ArrayList;
import java.util.HashMap;
import java.util.List;
import java.util.Map;
import java.util.function.Supplier;

/** The boundary cases of the document: each sentence that names one has a test here, which names the sentence. */
public final class BoundaryTest {
    private static final int LEAST = Integer.MIN_VALUE;
    private static final int GREATEST = Integer.MAX_VALUE;
    private static final int CALL_LIMIT = 512;

    /** No node has one of these numbers while there are 11. The last one is 0 if 24 times it is kept in an int. */
    private static final int[] NO_NODES = {-1, 11, 12, 23, 24, LEAST, GREATEST, 1 << 29};

    /** 2 times the last one, or the least int, is below 1 if it is kept in an int. */
    private static final int[] NO_RANGES = {-1, 4, 5, LEAST, GREATEST, 1 << 30};
    private static final int[] NO_WHICHES = {-1, 2, 3, LEAST, GREATEST};

    private static final Map<String, Method> METHODS = new HashMap<>();

    private static String sentence = "";
    private static int wrong = 0;

    private static void sentence(String where, String words) {
        sentence = where + ", '" + words + "'";
    }

    private static void wrong(String what) {
        wrong++;
        System.out.println(sentence + ": " + what);
    }

    private static String told(String name, int[] v) {
        StringBuilder text = new StringBuilder(name + "(");
        for (int i = 0; i < v.length; i++) {
            text.append(i == 0 ? "" : ", ").append(v[i]);
        }
        return text + ")";
    }

    /** A new object, and the calls that were made on it. */
    private static final class Run {
        private final LiveRanges x = new LiveRanges();
        private final List<String> names = new ArrayList<>();
        private final List<int[]> arguments = new ArrayList<>();

        int calls() {
            return names.size();
        }

        int call(String name, int... v) {
            names.add(name);
            arguments.add(v);
            if (calls() > CALL_LIMIT) {
                throw new IllegalStateException(sentence + ": the test makes too many calls on one object");
            }
            Object[] boxed = new Object[v.length];
            for (int i = 0; i < v.length; i++) {
                boxed[i] = v[i];
            }
            try {
                return (Integer) METHODS.get(name).invoke(x, boxed);
            } catch (InvocationTargetException e) {
                wrong(told(name, v) + " threw " + e.getCause());
                return LEAST;
            } catch (IllegalAccessException e) {
                throw new IllegalStateException(e);
            }
        }

        void due(int want, String name, int... v) {
            int got = call(name, v);
            if (got != want) {
                wrong(told(name, v) + " answered " + got + ", due is " + want + ", behind " + history());
            }
        }

        /** The calls ahead of the last one. */
        private String history() {
            StringBuilder text = new StringBuilder();
            for (int i = 0; i + 1 < calls(); i++) {
                text.append(i == 0 ? "" : " ").append(told(names.get(i), arguments.get(i)));
            }
            return text.toString();
        }

        /** Another new object after the same calls. */
        private Run again() {
            Run run = new Run();
            for (int i = 0; i < calls(); i++) {
                run.call(names.get(i), arguments.get(i));
            }
            return run;
        }

        /** All that can be asked, but for what follows from it. */
        private String state() {
            StringBuilder text = new StringBuilder();
            int count = call("nodes");
            for (int n = 0; n < count; n++) {
                text.append(n).append(call("kind", n) == 0 ? " element" : " text").append(" in ");
                text.append(call("parent", n)).append(':');
                int size = call("size", n);
                for (int i = 0; i < size; i++) {
                    text.append(' ').append(call("item", n, i));
                }
                text.append("; ");
            }
            for (int range = 0; range < 4; range++) {
                for (int which = 0; which < 2; which++) {
                    text.append('(').append(call("nodeOf", range, which)).append(", ");
                    text.append(call("offsetOf", range, which)).append(") ");
                }
            }
            return text.toString();
        }

        /** The call has this answer, and changes nothing. */
        void same(int want, String name, int... v) {
            Run without = again();
            Run with = again();
            with.due(want, name, v);
            String before = without.state();
            String after = with.state();
            if (!before.equals(after)) {
                wrong(told(name, v) + " changed " + before + " to " + after);
            }
            call(name, v);
        }

        /** The call is refused with this answer, and changes nothing. */
        void refused(int want, String name, int... v) {
            same(want, name, v);
        }

        void dueItems(int node, int... want) {
            due(want.length, "size", node);
            for (int i = 0; i < want.length; i++) {
                due(want[i], "item", node, i);
            }
            due(-2, "item", node, want.length);
        }

        void dueRange(int range, int s, int a, int e, int b) {
            due(s, "nodeOf", range, 0);
            due(a, "offsetOf", range, 0);
            due(e, "nodeOf", range, 1);
            due(b, "offsetOf", range, 1);
        }

        Run set(int range, int s, int a, int e, int b) {
            due(1, "setStart", range, s, a);
            due(1, "setEnd", range, e, b);
            dueRange(range, s, a, e, b);
            return this;
        }
    }

    // ---- Objects to start from

    /**
     * Three trees. The root 0 has the children 1 (element), 2 (text 1234), 3 (element); 1 has 4 (text 56) and
     * 6 (element without children); 3 has 5 (text 78) and 7 (text without letters). 8 is a text, 90, without
     * parent; 9 is an element without parent, and has 10 (text 3).
     */
    private static Run family() {
        Run run = new Run();
        String[] makes = {"element", "text", "element", "text", "text", "element", "text", "text", "element", "text"};
        for (String make : makes) {
            run.call(make);
        }
        int[][] puts = {{0, 1, 0}, {0, 2, 1}, {0, 3, 2}, {1, 4, 0}, {1, 6, 1}, {3, 5, 0}, {3, 7, 1}, {9, 10, 0}};
        for (int[] put : puts) {
            run.call("put", put);
        }
        int[][] letters = {{2, 1234}, {4, 56}, {5, 78}, {8, 90}, {10, 3}};
        for (int[] entry : letters) {
            run.call("replace", entry[0], 0, 0, entry[1]);
        }
        return run;
    }

    /** The same, with ranges whose ends would show a change. */
    private static Run busy() {
        Run run = family();
        int[][] ends = {{4, 1, 5, 1}, {2, 2, 0, 2}, {8, 1, 8, 2}, {9, 0, 10, 1}};
        for (int range = 0; range < 4; range++) {
            run.call("setStart", range, ends[range][0], ends[range][1]);
            run.call("setEnd", range, ends[range][2], ends[range][3]);
        }
        return run;
    }

    /** The family with text 8 as the root's child behind text 2. */
    private static Run neighbours() {
        Run run = family();
        run.due(4, "put", 0, 8, 2);
        return run;
    }

    /** 23 texts beside the root, none with a parent. */
    private static Run full() {
        Run run = new Run();
        for (int n = 1; n < 24; n++) {
            run.call("text");
        }
        return run;
    }

    /** 23 texts, all of them children of the root, in the order of their numbers. */
    private static Run wide() {
        Run run = full();
        for (int n = 1; n < 24; n++) {
            run.due(n, "put", 0, n, n - 1);
        }
        return run;
    }

    /** 24 elements, each but the root the only child of the one made before it. */
    private static Run deep() {
        Run run = new Run();
        for (int n = 1; n < 24; n++) {
            run.call("element");
            run.due(1, "put", n - 1, n, 0);
        }
        return run;
    }

    /** The root's only child is text 1, with as many letters, all of them 1. */
    private static Run ones(int letters) {
        Run run = new Run();
        run.call("text");
        run.call("put", 0, 1, 0);
        for (int i = 0; i < letters; i++) {
            run.due(i + 1, "replace", 1, i, 0, 1);
        }
        return run;
    }

    /** Places {n, o, m, q}: a start or an end of any range at (n, o) is at (m, q) after the call. */
    private static void moves(Supplier<Run> maker, int[][] places, int want, String name, int... v) {
        for (int[] place : places) {
            Run run = maker.get();
            for (int range = 0; range < 4; range++) {
                run.set(range, place[0], place[1], place[0], place[1]);
            }
            run.due(want, name, v);
            for (int range = 0; range < 4; range++) {
                run.dueRange(range, place[2], place[3], place[2], place[3]);
            }
        }
    }

    private static int[] stays(int n, int o) {
        return new int[] {n, o, n, o};
    }

    // ---- What it is

    private static void theLastCall() {
        sentence("What it is", "at most 512 calls after it has been made");
        Run run = ones(4);
        while (run.calls() < CALL_LIMIT - 4) {
            run.due(0, "take", 1);
            run.due(1, "put", 0, 1, 0);
        }
        run.due(1, "setStart", 0, 1, 1);
        run.due(1, "setEnd", 0, 1, 3);
        while (run.calls() < CALL_LIMIT) {
            run.due(2, "letters", 0);
        }
    }

    // ---- Terms

    private static void atMost24Nodes() {
        sentence("Terms", "at most 24 NODES, numbered 0 to 23 in the order in which they were made");
        Run run = new Run();
        for (int n = 1; n < 24; n += 3) {
            run.due(n, "text");
            run.due(n + 1, "split", n, 0);
            if (n + 2 < 24) {
                run.due(n + 2, "element");
            }
        }
        run.due(24, "nodes");
        run.refused(-2, "element");
        run.refused(-2, "text");
        run.refused(-3, "split", 22, 0);
        for (int n = 1; n < 24; n++) {
            run.due(n % 3 == 0 ? 0 : 1, "kind", n);
        }
        run.due(-1, "kind", 24);
        run.due(1, "put", 0, 23, 0);
    }

    private static void noNodeIsGivenUp() {
        sentence("Terms", "none is ever given up");
        Run run = wide();
        run.due(2, "join", 1);
        run.due(1, "take", 3);
        run.due(1, "setEnd", 0, 0, 21);
        run.due(21, "erase", 0);
        run.due(24, "nodes");
        run.refused(-2, "element");
        run.refused(-2, "text");
        run.refused(-3, "split", 1, 0);
        for (int n = 1; n < 24; n++) {
            run.due(1, "kind", n);
            run.due(-2, "parent", n);
        }
        run.due(1, "put", 0, 2, 0);
        run.due(1, "replace", 2, 0, 0, 5);
    }

    private static void atMost12Letters() {
        sentence("Terms", "a row of at most 12 LETTERS");
        Run run = ones(12);
        run.refused(-4, "replace", 1, 0, 0, 1);
        run.refused(-4, "replace", 1, 12, 0, 1);
        run.due(2, "text");
        run.due(1, "replace", 2, 0, 0, 7);
        run.due(2, "put", 0, 2, 1);
        run.refused(-3, "join", 1);
        run.due(11, "replace", 1, 0, 1, -1);
        run.due(2, "join", 1);
        run.dueItems(1, 1, 1, 1, 1, 1, 1, 1, 1, 1, 1, 1, 7);
        run.due(3, "split", 1, 0);
        run.dueItems(3, 1, 1, 1, 1, 1, 1, 1, 1, 1, 1, 1, 7);
        run.refused(-4, "replace", 3, 5, 0, 1);
    }

    private static void lettersFrom0To9() {
        sentence("Terms", "LETTERS, numbers from 0 to 9");
        Run run = ones(0);
        run.due(4, "replace", 1, 0, 0, 9876);
        run.due(8, "replace", 1, 4, 0, 5432);
        run.due(10, "replace", 1, 8, 0, 10);
        run.due(11, "replace", 1, 10, 0, 0);
        run.dueItems(1, 9, 8, 7, 6, 5, 4, 3, 2, 1, 0, 0);
    }

    private static void atMostOneParent() {
        sentence("Terms", "A node has at most one PARENT");
        Run run = family();
        run.due(3, "put", 3, 4, 0);
        run.due(3, "parent", 4);
        run.dueItems(1, 6);
        run.dueItems(3, 4, 5, 7);
        run.due(0, "take", 4);
        run.due(-2, "parent", 4);
        run.dueItems(3, 5, 7);
    }

    private static void theIndexOfAChild() {
        sentence("Terms", "the INDEX of a child is how many children its parent has before it");
        Run run = wide();
        for (int n = 23; n > 12; n--) {
            run.due(n - 1, "take", n);
        }
        for (int n = 1; n < 13; n++) {
            run.due(0, "take", n);
        }
        run.dueItems(0);
        run = new Run();
        for (int n = 1; n < 24; n++) {
            run.due(n, "element");
            run.due(n == 1 ? 1 : n - 1, "put", n == 1 ? 0 : 1, n, n == 1 ? 0 : n - 2);
        }
        run.due(21, "take", 23);
        run.due(10, "take", 12);
        run.due(19, "take", 22);
        run.due(0, "take", 2);
        run.due(0, "take", 1);
    }

    private static void theRoot() {
        sentence("Terms", "Node 0, the ROOT, is an element and never has a parent");
        Run run = busy();
        run.due(0, "kind", 0);
        run.due(-2, "parent", 0);
        int[] elements = {0, 1, 3, 6, 9};
        for (int element : elements) {
            run.refused(-2, "put", element, 0, 0);
        }
        run.refused(-2, "take", 0);
        run.due(-2, "parent", 0);
    }

    private static void belowAtAnyDepth() {
        sentence("Terms", "A node is BELOW another one if that is its parent, or if its parent is below that one");
        Run run = deep();
        for (int n = 1; n < 24; n++) {
            run.refused(-2, "put", 23, n, 0);
        }
        run = deep();
        run.refused(-2, "put", 22, 1, 0);
        run.due(1, "put", 22, 23, 0);
        run.due(2, "put", 0, 23, 0);
        run.due(1, "put", 23, 1, 0);
        run.refused(-2, "put", 22, 23, 0);
        run.due(0, "take", 12);
        run.due(1, "put", 11, 12, 0);
        run.refused(-2, "put", 22, 23, 0);
    }

    private static void offsetsOfPlaces() {
        sentence("Terms", "o from 0 to the number of its children (or letters)");
        int[] sizes = {3, 2, 4, 2, 2, 2, 0, 0, 2, 1, 1};
        for (int n = 0; n < sizes.length; n++) {
            Run run = busy();
            for (int o = 0; o <= sizes[n]; o++) {
                run.set(2, n, o, n, o);
            }
            int[] wrongs = {-1, sizes[n] + 1, sizes[n] + 2, LEAST, GREATEST};
            for (int o : wrongs) {
                run.refused(-2, "setStart", 2, n, o);
                run.refused(-2, "setEnd", 2, n, o);
            }
        }
        Run run = wide();
        run.set(0, 0, 0, 0, 23);
        run.refused(-2, "setStart", 0, 0, 24);
        run.refused(-2, "setEnd", 0, 0, 24);
        run = ones(12);
        run.set(0, 1, 0, 1, 12);
        run.refused(-2, "setStart", 0, 1, 13);
        run.refused(-2, "setEnd", 0, 1, 13);
    }

    private static void offsetsAfterAChange() {
        sentence("Terms", "o from 0 to the number of its children (or letters)");
        Run run = family();
        run.due(1, "take", 2);
        run.refused(-2, "setEnd", 0, 0, 3);
        run.due(1, "setEnd", 0, 0, 2);
        run.due(3, "put", 0, 2, 0);
        run.due(1, "setEnd", 0, 0, 3);
        run.due(2, "replace", 2, 0, 2, -1);
        run.refused(-2, "setEnd", 1, 2, 3);
        run.due(11, "split", 2, 1);
        run.refused(-2, "setEnd", 1, 2, 2);
        run.refused(-2, "setEnd", 1, 11, 2);
        run.due(1, "setEnd", 1, 11, 1);
        run.due(11, "join", 2);
        run.refused(-2, "setEnd", 2, 11, 1);
        run.due(1, "setEnd", 2, 2, 2);
    }

    /** The places of the root's tree in the family, first to last. */
    private static final int[][] IN_ORDER = {
        {0, 0}, {1, 0}, {4, 0}, {4, 1}, {4, 2}, {1, 1}, {6, 0}, {1, 2}, {0, 1}, {2, 0}, {2, 1}, {2, 2}, {2, 3},
        {2, 4}, {0, 2}, {3, 0}, {5, 0}, {5, 1}, {5, 2}, {3, 1}, {7, 0}, {3, 2}, {0, 3},
    };

    private static void placesInOrder() {
        sentence("Terms", "for o = 0 it is the gap directly behind n's opening mark; else ... directly behind");
        for (int i = 0; i < IN_ORDER.length; i++) {
            Run run = family();
            run.due(1, "setStart", 0, IN_ORDER[i][0], IN_ORDER[i][1]);
            for (int j = 0; j < IN_ORDER.length; j++) {
                run.due(1, "setStart", 1, IN_ORDER[j][0], IN_ORDER[j][1]);
                run.due(Integer.compare(i, j), "compare", 0, 0, 1, 0);
                run.due(Integer.compare(j, i), "compare", 1, 0, 0, 0);
            }
        }
    }

    private static void placesInOrderOfAnyTree() {
        sentence("Terms", "the row of the tree's node without a parent");
        int[][] inOrder = {{1, 0}, {4, 0}, {4, 1}, {4, 2}, {1, 1}, {6, 0}, {1, 2}};
        Run run = family();
        run.due(0, "take", 1);
        for (int i = 0; i < inOrder.length; i++) {
            run.due(1, "setStart", 0, inOrder[i][0], inOrder[i][1]);
            for (int j = 0; j < inOrder.length; j++) {
                run.due(1, "setStart", 1, inOrder[j][0], inOrder[j][1]);
                run.due(Integer.compare(i, j), "compare", 0, 0, 1, 0);
            }
        }
        run = family();
        run.set(0, 8, 0, 8, 2);
        run.due(-1, "compare", 0, 0, 0, 1);
        run.set(1, 8, 1, 8, 1);
        run.due(-1, "compare", 0, 0, 1, 0);
        run.due(1, "compare", 0, 1, 1, 0);
    }

    private static void fourRanges() {
        sentence("Terms", "There are four RANGES, 0 to 3");
        Run run = busy();
        for (int range : NO_RANGES) {
            run.refused(-1, "setStart", range, 0, 0);
            run.refused(-1, "setEnd", range, 0, 0);
            run.refused(-1, "erase", range);
        }
        for (int range = 0; range < 4; range++) {
            Run one = family();
            one.set(range, 2, 1, 5, 1);
            for (int other = 0; other < 4; other++) {
                if (other != range) {
                    one.dueRange(other, 0, 0, 0, 0);
                }
            }
        }
    }

    private static void rangesAtFirst() {
        sentence("Terms", "at first all are (0, 0)");
        Run run = new Run();
        for (int range = 0; range < 4; range++) {
            run.dueRange(range, 0, 0, 0, 0);
        }
    }

    private static void rangesStayInOneTree() {
        sentence("Terms", "places of one tree, the end not before the start");
        int[][] ends = {{4, 1, 5, 1}, {0, 0, 2, 2}, {2, 1, 7, 0}, {2, 4, 0, 2}};
        int[][] after = {{0, 0, 5, 1}, {0, 0, 2, 2}, {2, 1, 7, 0}, {2, 4, 0, 1}};
        Run run = family();
        for (int range = 0; range < 4; range++) {
            run.set(range, ends[range][0], ends[range][1], ends[range][2], ends[range][3]);
        }
        run.due(0, "take", 1);
        for (int range = 0; range < 4; range++) {
            run.dueRange(range, after[range][0], after[range][1], after[range][2], after[range][3]);
            run.due(-1, "compare", range, 0, range, 1);
        }
        run.due(1, "put", 6, 3, 0);
        run.dueRange(0, 0, 0, 0, 1);
        run.dueRange(2, 2, 1, 0, 1);
        run.due(-1, "compare", 0, 0, 0, 1);
        run.due(-1, "compare", 2, 0, 2, 1);
    }

    private static void takingOutMovesFromTheChild() {
        sentence("Terms", "places (m, o), m being the child or below it, become (p, i)");
        int[][] inFirst = {
            {1, 0, 0, 0}, {1, 1, 0, 0}, {1, 2, 0, 0}, {4, 0, 0, 0}, {4, 2, 0, 0}, {6, 0, 0, 0},
            stays(2, 0), stays(3, 0), stays(5, 1), stays(8, 1), stays(9, 0),
        };
        moves(BoundaryTest::family, inFirst, 0, "take", 1);
        int[][] inText = {{2, 0, 0, 1}, {2, 2, 0, 1}, {2, 4, 0, 1}, stays(1, 2), stays(4, 2), stays(3, 0)};
        moves(BoundaryTest::family, inText, 1, "take", 2);
        int[][] inLast = {{3, 0, 0, 2}, {3, 2, 0, 2}, {5, 2, 0, 2}, {7, 0, 0, 2}, stays(2, 4), stays(1, 0)};
        moves(BoundaryTest::family, inLast, 2, "take", 3);
        int[][] inChildless = {{6, 0, 1, 1}, stays(4, 2), stays(2, 0)};
        moves(BoundaryTest::family, inChildless, 1, "take", 6);
        int[][] inOtherTree = {{10, 0, 9, 0}, {10, 1, 9, 0}, stays(4, 1)};
        moves(BoundaryTest::family, inOtherTree, 0, "take", 10);
    }

    private static void takingOutMovesFromFarBelow() {
        sentence("Terms", "places (m, o), m being the child or below it, become (p, i)");
        moves(BoundaryTest::deep, new int[][] {{23, 0, 0, 0}, {22, 1, 0, 0}, {1, 0, 0, 0}, {0, 1, 0, 0}}, 0, "take", 1);
        moves(BoundaryTest::deep, new int[][] {{23, 0, 22, 0}, {22, 1, 22, 0}, stays(22, 0), stays(21, 1)},
            0, "take", 23);
    }

    private static void takingOutMovesInTheParent() {
        sentence("Terms", "places (p, o) with o above i become (p, o - 1)");
        moves(BoundaryTest::family, new int[][] {stays(0, 0), {0, 1, 0, 0}, {0, 2, 0, 1}, {0, 3, 0, 2}}, 0, "take", 1);
        moves(BoundaryTest::family, new int[][] {stays(0, 0), stays(0, 1), {0, 2, 0, 1}, {0, 3, 0, 2}}, 1, "take", 2);
        moves(BoundaryTest::family, new int[][] {stays(0, 1), stays(0, 2), {0, 3, 0, 2}}, 2, "take", 3);
        moves(BoundaryTest::family, new int[][] {stays(1, 0), stays(1, 1), {1, 2, 1, 1}, stays(0, 1)}, 1, "take", 6);
        moves(BoundaryTest::wide, new int[][] {{0, 23, 0, 22}, stays(0, 22), stays(0, 0)}, 22, "take", 23);
        moves(BoundaryTest::wide, new int[][] {{0, 23, 0, 22}, {0, 1, 0, 0}, stays(0, 0)}, 0, "take", 1);
    }

    private static void puttingInMovesInTheParent() {
        sentence("Terms", "places (p, o) with o above i become (p, o + 1)");
        moves(BoundaryTest::family, new int[][] {stays(0, 0), {0, 1, 0, 2}, {0, 2, 0, 3}, {0, 3, 0, 4}},
            4, "put", 0, 8, 0);
        moves(BoundaryTest::family, new int[][] {stays(0, 0), stays(0, 1), {0, 2, 0, 3}, {0, 3, 0, 4}},
            4, "put", 0, 8, 1);
        moves(BoundaryTest::family, new int[][] {stays(0, 0), stays(0, 2), stays(0, 3)}, 4, "put", 0, 8, 3);
        moves(BoundaryTest::family, new int[][] {stays(6, 0), stays(1, 1), stays(1, 2), stays(0, 1)},
            1, "put", 6, 8, 0);
        int[][] elsewhere = {stays(8, 0), stays(8, 2), stays(1, 0), stays(1, 2), stays(2, 4), stays(3, 0), stays(9, 1)};
        moves(BoundaryTest::family, elsewhere, 4, "put", 0, 8, 1);
        moves(BoundaryTest::family, new int[][] {stays(9, 0), stays(9, 1), stays(10, 0), stays(10, 1)},
            3, "put", 1, 9, 0);
    }

    private static void puttingInShiftsChildren() {
        sentence("Terms", "the children from index i on get indexes greater by 1");
        int[][] due = {{8, 1, 2, 3}, {1, 8, 2, 3}, {1, 2, 8, 3}, {1, 2, 3, 8}};
        for (int i = 0; i < due.length; i++) {
            Run run = family();
            run.due(4, "put", 0, 8, i);
            run.dueItems(0, due[i]);
            run.due(i < 3 ? 3 : 2, "take", 3);
        }
        Run run = full();
        for (int n = 1; n < 24; n++) {
            run.due(n, "put", 0, n, 0);
        }
        for (int n = 1; n < 24; n++) {
            run.due(n, "item", 0, 23 - n);
        }
    }

    /** A text of 8 letters, 12345678, without parent. */
    private static Run eight() {
        Run run = new Run();
        run.due(1, "text");
        run.due(4, "replace", 1, 0, 0, 5678);
        run.due(8, "replace", 1, 0, 0, 1234);
        return run;
    }

    private static void replacingMoves() {
        sentence("Terms", "o above a and at most a + c become (t, a); ... o above a + c become (t, o + k - c)");
        int[] letters = {-1, 9, 98, 987, 9876};
        for (int a = 0; a <= 8; a++) {
            for (int c = 0; c <= 8 - a; c++) {
                for (int k = 0; k < letters.length && 8 - c + k <= 12; k++) {
                    int[][] places = new int[9][];
                    for (int o = 0; o <= 8; o++) {
                        places[o] = new int[] {1, o, 1, o <= a ? o : o <= a + c ? a : o + k - c};
                    }
                    moves(BoundaryTest::eight, places, 8 - c + k, "replace", 1, a, c, letters[k]);
                }
            }
        }
    }

    private static void replacingMovesNothingElsewhere() {
        sentence("Terms", "places (t, o)");
        int[][] elsewhere = {
            stays(0, 0), stays(0, 1), stays(0, 2), stays(0, 3), stays(4, 2), stays(5, 1), stays(8, 2), stays(1, 2),
        };
        moves(BoundaryTest::family, elsewhere, 1, "replace", 2, 0, 4, 5);
        moves(BoundaryTest::family, elsewhere, 8, "replace", 2, 0, 0, 5555);
    }

    private static void refusedCallsChangeNothing() {
        sentence("Terms", "A refused call changes nothing");
        Run run = busy();
        run.refused(-1, "put", 2, 4, 0);
        run.refused(-2, "put", 6, 1, 0);
        run.refused(-3, "put", 0, 4, 4);
        run.refused(-3, "put", 0, 1, 3);
        run.refused(-1, "take", 11);
        run.refused(-2, "take", 8);
        run.refused(-1, "replace", 1, 0, 0, 5);
        run.refused(-2, "replace", 2, 5, 0, 5);
        run.refused(-3, "replace", 2, 1, 2, 10000);
        run.due(8, "replace", 2, 2, 0, 5555);
        run.due(9, "replace", 2, 0, 0, 6);
        run.refused(-4, "replace", 2, 1, 0, 9999);
        run.refused(-1, "split", 1, 0);
        run.refused(-2, "split", 2, 10);
        run.refused(-1, "join", 1);
        run.refused(-2, "join", 4);
        run.refused(-1, "setStart", 0, 11, 0);
        run.refused(-2, "setStart", 0, 2, 10);
        run.refused(-1, "setEnd", 4, 2, 0);
        run.refused(-2, "setEnd", 0, 2, 10);
        run.refused(-1, "erase", 4);
    }

    private static void testsInTheirOrder() {
        sentence("Terms", "The tests of a call are made in the order in which they are named");
        Run run = busy();
        run.refused(-1, "put", 2, 0, 9);
        run.refused(-1, "put", 0, 11, -1);
        run.refused(-2, "put", 1, 0, 9);
        run.refused(-2, "put", 6, 1, -1);
        run.refused(-2, "put", 1, 1, GREATEST);
        run.refused(-1, "replace", 1, -1, -1, -2);
        run.refused(-2, "replace", 2, -1, 0, -2);
        run.refused(-2, "replace", 2, 5, 0, 10000);
        run.refused(-2, "replace", 2, 0, -1, 10000);
        run.refused(-1, "split", 3, -1);
        run.refused(-1, "setStart", 4, 2, 9);
        run.refused(-1, "setStart", 0, 11, -1);
        run.refused(-1, "setEnd", -1, 2, 9);
        run.refused(-1, "setEnd", 0, 11, -1);
        run.refused(-1, "item", 11, -1);
        run.refused(-1, "letterIn", 4, -1);
        run = ones(12);
        run.refused(-2, "replace", 1, 13, 0, 1);
        run.refused(-2, "replace", 1, 0, -1, 1);
        run.refused(-3, "replace", 1, 0, 0, 10000);
        run.refused(-3, "replace", 1, 12, 0, -2);
        run.due(2, "text");
        run.refused(-2, "join", 1);
        run = full();
        run.refused(-1, "split", 0, 1);
        run.refused(-1, "split", 24, 0);
        run.refused(-2, "split", 1, 1);
        run.refused(-2, "split", 1, -1);
        run.refused(-3, "split", 1, 0);
    }

    private static void noSuchNode() {
        sentence("Terms", "A node that there is not, or is not of the sort that is asked for: -1, tested first");
        for (int n : NO_NODES) {
            Run run = busy();
            run.refused(-1, "put", n, 8, 0);
            run.refused(-1, "put", 0, n, 0);
            run.refused(-1, "take", n);
            run.refused(-1, "replace", n, 0, 0, 1);
            run.refused(-1, "split", n, 0);
            run.refused(-1, "join", n);
            run.refused(-1, "setStart", 0, n, 0);
            run.refused(-1, "setEnd", 0, n, 0);
            run.refused(-1, "kind", n);
            run.refused(-1, "size", n);
            run.refused(-1, "parent", n);
            run.refused(-1, "item", n, 0);
            run.refused(-1, "holds", 0, n);
        }
        int[] elements = {0, 1, 3, 6, 9};
        for (int n : elements) {
            Run run = busy();
            run.refused(-1, "replace", n, 0, 0, 1);
            run.refused(-1, "split", n, 0);
            run.refused(-1, "join", n);
        }
        int[] texts = {2, 4, 5, 7, 8, 10};
        for (int n : texts) {
            Run run = busy();
            run.refused(-1, "put", n, 6, 0);
            run.refused(-1, "put", n, n, 0);
        }
    }

    private static void noSuchRange() {
        sentence("Terms", "a range that is not 0 to 3: -1, where nothing else is said");
        for (int range : NO_RANGES) {
            Run run = busy();
            run.refused(-1, "setStart", range, 2, 1);
            run.refused(-1, "setEnd", range, 2, 1);
            run.refused(-1, "erase", range);
            run.refused(-1, "nodeOf", range, 0);
            run.refused(-1, "offsetOf", range, 1);
            run.refused(-1, "letters", range);
            run.refused(-1, "letterIn", range, 0);
            run.refused(-1, "holds", range, 2);
            run.refused(-2, "compare", range, 0, 0, 0);
            run.refused(-2, "compare", 0, 0, range, 0);
        }
    }

    private static void questionsChangeNothing() {
        sentence("Terms", "questions; they change nothing");
        Run run = busy();
        run.same(11, "nodes");
        run.same(1, "kind", 2);
        run.same(4, "size", 2);
        run.same(0, "parent", 2);
        run.same(2, "item", 0, 1);
        run.same(4, "nodeOf", 0, 0);
        run.same(1, "offsetOf", 0, 1);
        run.same(-1, "compare", 0, 0, 0, 1);
        run.same(2, "compare", 0, 0, 2, 0);
        run.same(6, "letters", 0);
        run.same(6, "letterIn", 0, 0);
        run.same(-2, "letterIn", 0, 6);
        run.same(1, "holds", 0, 2);
        run.same(0, "holds", 0, 8);
        run.due(2, "erase", 0);
        run.dueItems(4, 5);
        run.dueItems(5, 8);
    }

    // ---- Promise 1

    private static void aNewObject() {
        sentence("Promise 1", "Only the root, without children");
        Run run = new Run();
        run.due(1, "nodes");
        run.dueItems(0);
        run.refused(-1, "kind", 1);
        run.refused(-2, "take", 0);
        run.refused(-2, "put", 0, 0, 0);
        run.refused(-1, "put", 0, 1, 0);
        run.refused(-1, "split", 0, 0);
        run.refused(-1, "join", 0);
        run.refused(-2, "setStart", 0, 0, 1);
        run.due(1, "setEnd", 3, 0, 0);
        run.same(0, "erase", 0);
        run.same(0, "letters", 0);
        run.same(-2, "letterIn", 0, 0);
        run.same(0, "holds", 0, 0);
        run.same(0, "compare", 0, 0, 3, 1);
    }

    // ---- Promises 2 and 3

    private static void twentyThreeElements() {
        sentence("Promise 2", "There are 24 nodes: -2");
        Run run = new Run();
        for (int n = 1; n < 24; n++) {
            run.due(n, "element");
            run.due(n + 1, "nodes");
        }
        run.refused(-2, "element");
        run.refused(-2, "element");
        run.dueItems(23);
        run.due(0, "kind", 23);
        run.due(-2, "parent", 23);
    }

    private static void twentyThreeTexts() {
        sentence("Promise 3", "There are 24 nodes: -2");
        Run run = new Run();
        for (int n = 1; n < 24; n++) {
            run.due(n, "text");
            run.due(n + 1, "nodes");
        }
        run.refused(-2, "text");
        run.refused(-2, "text");
        run.dueItems(23);
        run.due(1, "kind", 23);
        run.due(-2, "parent", 23);
    }

    // ---- Promises 4 and 23

    private static void putTakesOutFirst() {
        sentence("Promise 4", "if it has a parent, it is taken out first, and the index is counted after that");
        int[][] due = {{1, 2, 3}, {2, 1, 3}, {2, 3, 1}};
        for (int i = 0; i < due.length; i++) {
            Run run = family();
            run.due(3, "put", 0, 1, i);
            run.dueItems(0, due[i]);
        }
        int[][] moved = {
            stays(0, 0), {0, 1, 0, 0}, {0, 2, 0, 1}, {0, 3, 0, 2}, {1, 2, 0, 0}, {4, 1, 0, 0}, stays(2, 3),
        };
        moves(BoundaryTest::family, moved, 3, "put", 0, 1, 2);
        int[][] toFront = {stays(0, 0), {0, 1, 0, 2}, {0, 2, 0, 3}, stays(0, 3), {5, 1, 0, 3}, stays(1, 1)};
        moves(BoundaryTest::family, toFront, 3, "put", 0, 3, 0);
        int[][] whereItWas = {stays(0, 0), stays(0, 1), {0, 2, 0, 1}, stays(0, 3), {2, 0, 0, 1}, {2, 4, 0, 1}};
        moves(BoundaryTest::family, whereItWas, 3, "put", 0, 2, 1);
        int[][] elsewhere = {
            stays(0, 1), {0, 2, 0, 1}, {0, 3, 0, 2}, {2, 2, 0, 1}, stays(3, 0), stays(3, 1), {3, 2, 3, 3},
        };
        moves(BoundaryTest::family, elsewhere, 3, "put", 3, 2, 1);
    }

    private static void putNoElementOrNoNode() {
        sentence("Promise 4", "parent is no element, or child no node: -1");
        Run run = busy();
        int[] texts = {2, 4, 5, 7, 8, 10};
        for (int n : texts) {
            run.refused(-1, "put", n, 6, 0);
        }
        for (int n : NO_NODES) {
            run.refused(-1, "put", n, 6, 0);
            run.refused(-1, "put", 0, n, 0);
        }
        run.refused(-1, "put", LEAST, LEAST, LEAST);
    }

    private static void putTheRootOrIntoItself() {
        sentence("Promise 4", "child is the root, or parent is child or below it: -2");
        Run run = busy();
        int[] elements = {0, 1, 3, 6, 9};
        for (int n : elements) {
            run.refused(-2, "put", n, 0, 0);
            run.refused(-2, "put", n, n, 0);
        }
        run.refused(-2, "put", 6, 1, 0);
        run.due(1, "put", 6, 9, 0);
        run.refused(-2, "put", 9, 1, 0);
        run.refused(-2, "put", 9, 6, 1);
        run.due(3, "put", 3, 6, 2);
        run.refused(-2, "put", 9, 3, 0);
        run.due(2, "put", 9, 1, 1);
    }

    private static void putAtNoIndex() {
        sentence("Promise 4", "index is not from 0 to the number of children: -3");
        int[][] sizes = {{0, 3}, {1, 2}, {3, 2}, {6, 0}, {9, 1}};
        for (int[] entry : sizes) {
            Run run = busy();
            int[] wrongs = {-1, entry[1] + 1, entry[1] + 2, LEAST, GREATEST};
            for (int index : wrongs) {
                run.refused(-3, "put", entry[0], 8, index);
            }
            Run last = run.again();
            last.due(entry[1] + 1, "put", entry[0], 8, entry[1]);
            last.due(8, "item", entry[0], entry[1]);
            run.due(entry[1] + 1, "put", entry[0], 8, 0);
            run.due(8, "item", entry[0], 0);
        }
    }

    private static void putAnswersTheSize() {
        sentence("Promise 4", "answers how many children the parent has then");
        Run run = full();
        for (int n = 1; n < 24; n++) {
            run.due(n, "put", 0, n, n / 2);
        }
        run.due(23, "put", 0, 1, 22);
        run.due(23, "put", 0, 1, 0);
        run.refused(-3, "put", 0, 1, 23);
        run.due(1, "item", 0, 0);
    }

    /** Letters ahead of the last puts, so that a row of children that runs over its room would show. */
    private static void putTheMostChildren() {
        sentence("Promise 4", "Puts a node in as the child of an element with an index");
        for (int index = 0; index <= 22; index += 11) {
            Run run = full();
            for (int n = 1; n < 24; n++) {
                run.due(2, "replace", n, 0, 0, 45);
            }
            for (int n = 1; n < 24; n++) {
                run.due(n, "put", 0, n, Math.min(index, n - 1));
            }
            for (int n = 1; n < 24; n++) {
                run.dueItems(n, 4, 5);
            }
            run.due(0, "take", run.call("item", 0, 0));
            run.due(21, "take", run.call("item", 0, 21));
            for (int n = 1; n < 24; n++) {
                run.dueItems(n, 4, 5);
            }
        }
    }

    private static void putCountsWithoutTheChild() {
        sentence("Promise 23", "-3 counts the children of the parent without the child, if it is one of them");
        for (int child = 1; child <= 3; child++) {
            Run run = busy();
            run.refused(-3, "put", 0, child, 3);
            run.refused(-3, "put", 0, child, -1);
            run.due(3, "put", 0, child, 2);
            run.due(child, "item", 0, 2);
        }
        Run run = busy();
        run.refused(-3, "put", 9, 10, 1);
        run.due(1, "put", 9, 10, 0);
        run.refused(-3, "put", 0, 4, 4);
        run.due(4, "put", 0, 4, 3);
        run.refused(-3, "put", 0, 4, 4);
        run.due(4, "put", 0, 4, 3);
    }

    // ---- Promise 5

    private static void takeNoNode() {
        sentence("Promise 5", "Node: -1");
        Run run = busy();
        for (int n : NO_NODES) {
            run.refused(-1, "take", n);
        }
        run = deep();
        run.refused(-1, "take", 24);
        run.refused(-1, "take", -1);
        run.due(0, "take", 23);
    }

    private static void takeWithoutParent() {
        sentence("Promise 5", "it has no parent: -2");
        Run run = busy();
        run.refused(-2, "take", 0);
        run.refused(-2, "take", 8);
        run.refused(-2, "take", 9);
        run.due(0, "take", 1);
        run.refused(-2, "take", 1);
        run.due(1, "take", 6);
        run.refused(-2, "take", 6);
        run.due(0, "take", 4);
        run.dueItems(1);
        run.due(7, "join", 5);
        run.refused(-2, "take", 7);
        run.due(1, "setStart", 0, 0, 0);
        run.due(1, "setEnd", 0, 0, 1);
        run.due(1, "erase", 0);
        run.refused(-2, "take", 2);
    }

    private static void takeAnswersTheIndex() {
        sentence("Promise 5", "answers the index that it had");
        for (int n = 1; n <= 3; n++) {
            family().due(n - 1, "take", n);
        }
        Run run = family();
        run.due(2, "take", 3);
        run.due(1, "take", 2);
        run.due(0, "take", 1);
        run.dueItems(0);
        run.dueItems(1, 4, 6);
        run.dueItems(2, 1, 2, 3, 4);
        run.dueItems(3, 5, 7);
    }

    // ---- Promise 6

    private static void replaceNoText() {
        sentence("Promise 6", "Text: -1");
        Run run = busy();
        int[] elements = {0, 1, 3, 6, 9};
        for (int n : elements) {
            run.refused(-1, "replace", n, 0, 0, 1);
        }
        for (int n : NO_NODES) {
            run.refused(-1, "replace", n, 0, 0, 1);
        }
    }

    private static void replaceFromNoNumber() {
        sentence("Promise 6", "a is below 0 or above the number of letters, or c is below 0: -2");
        Run run = busy();
        int[] wrongs = {-1, LEAST, GREATEST};
        for (int a : wrongs) {
            run.refused(-2, "replace", 2, a, 0, 5);
            run.refused(-2, "replace", 7, a, 0, 5);
        }
        run.refused(-2, "replace", 2, 5, 0, -1);
        run.refused(-2, "replace", 7, 1, 0, -1);
        run.refused(-2, "replace", 2, 0, -1, 5);
        run.refused(-2, "replace", 2, 4, -1, 5);
        run.refused(-2, "replace", 2, 4, LEAST, 5);
        run.refused(-2, "replace", 2, 1, -1, -1);
        run.due(5, "replace", 2, 4, 0, 5);
        run.due(6, "replace", 2, 0, 0, 6);
        run.due(1, "replace", 7, 0, 0, 7);
        run.dueItems(2, 6, 1, 2, 3, 4, 5);
        run.dueItems(7, 7);
    }

    private static void replaceTooMany() {
        sentence("Promise 6", "a c that is too great counts as all letters from a on");
        int[][] due = {{9}, {1, 9}, {1, 2, 9}, {1, 2, 3, 9}, {1, 2, 3, 4, 9}};
        int[][] dueOfNone = {{}, {1}, {1, 2}, {1, 2, 3}, {1, 2, 3, 4}};
        for (int a = 0; a <= 4; a++) {
            int[] counts = {4 - a, 5 - a, 6 - a, 100, GREATEST - 1, GREATEST};
            for (int c : counts) {
                Run run = family();
                run.due(a + 1, "replace", 2, a, c, 9);
                run.dueItems(2, due[a]);
                run = family();
                run.due(a, "replace", 2, a, c, -1);
                run.dueItems(2, dueOfNone[a]);
            }
        }
        int[][] moved = {stays(2, 0), stays(2, 1), {2, 2, 2, 1}, {2, 3, 2, 1}, {2, 4, 2, 1}, stays(0, 2)};
        moves(BoundaryTest::family, moved, 3, "replace", 2, 1, GREATEST, 55);
        moves(BoundaryTest::family, moved, 3, "replace", 2, 1, 4, 55);
        moves(BoundaryTest::family, new int[][] {stays(2, 0), stays(2, 3), stays(2, 4)},
            6, "replace", 2, 4, GREATEST, 55);
    }

    private static void replaceByNoLetters() {
        sentence("Promise 6", "letters is not -1 to 9999: -3");
        Run run = busy();
        int[] wrongs = {-2, -3, 10000, 10001, LEAST, GREATEST};
        for (int letters : wrongs) {
            run.refused(-3, "replace", 2, 1, 2, letters);
            run.refused(-3, "replace", 7, 0, 0, letters);
        }
        run.due(6, "replace", 2, 1, 2, 9999);
        run.due(2, "replace", 2, 1, 4, -1);
    }

    private static void replaceWithinTwelve() {
        sentence("Promise 6", "the text would have more than 12 letters: -4");
        Run run = ones(12);
        run.set(0, 1, 3, 1, 11);
        run.refused(-4, "replace", 1, 0, 0, 0);
        run.refused(-4, "replace", 1, 12, 0, 5);
        run.refused(-4, "replace", 1, 12, GREATEST, 5);
        run.refused(-4, "replace", 1, 5, 1, 22);
        run.refused(-4, "replace", 1, 5, 2, 333);
        run.refused(-4, "replace", 1, 5, 3, 4444);
        run.refused(-4, "replace", 1, 11, GREATEST, 22);
        run.same(12, "replace", 1, 12, 0, -1);
        run.due(12, "replace", 1, 10, GREATEST, 22);
        run.due(12, "replace", 1, 0, 4, 4444);
        run.due(12, "replace", 1, 5, 3, 333);
        run.dueItems(1, 4, 4, 4, 4, 1, 3, 3, 3, 1, 1, 2, 2);
        for (int size = 8; size <= 11; size++) {
            Run some = ones(size);
            int[] letters = {1, 22, 333, 4444};
            for (int k = 1; k <= 4; k++) {
                if (size + k > 12) {
                    some.refused(-4, "replace", 1, size, 0, letters[k - 1]);
                }
            }
            some.due(12, "replace", 1, size, 0, letters[12 - size - 1]);
        }
    }

    private static void replaceByDigits() {
        sentence("Promise 6",
            "the decimal digits of 'letters', at least one (0 is the one letter 0); for -1 there are none");
        int[] letters = {-1, 0, 1, 9, 10, 11, 99, 100, 101, 999, 1000, 1001, 9990, 9999, 2345, 600, 70};
        for (int value : letters) {
            String digits = value == -1 ? "" : String.valueOf(value);
            int[] due = new int[digits.length() + 2];
            due[0] = 1;
            for (int i = 0; i < digits.length(); i++) {
                due[i + 1] = digits.charAt(i) - '0';
            }
            due[due.length - 1] = 4;
            Run run = family();
            run.due(due.length, "replace", 2, 1, 2, value);
            run.dueItems(2, due);
        }
    }

    private static void replaceNothing() {
        sentence("Promise 6", "Replaces the c letters of a text from number a on");
        Run run = busy();
        run.same(4, "replace", 2, 0, 0, -1);
        run.same(4, "replace", 2, 4, 0, -1);
        run.same(4, "replace", 2, 4, 9, -1);
        run.same(0, "replace", 7, 0, 0, -1);
        run.same(0, "replace", 7, 0, GREATEST, -1);
    }

    // ---- Promise 7

    private static void splitAnywhere() {
        sentence("Promise 7", "a new text gets its letters from number o on");
        int[][] first = {{}, {1}, {1, 2}, {1, 2, 3}, {1, 2, 3, 4}};
        int[][] second = {{1, 2, 3, 4}, {2, 3, 4}, {3, 4}, {4}, {}};
        for (int o = 0; o <= 4; o++) {
            Run run = family();
            run.due(11, "split", 2, o);
            run.dueItems(2, first[o]);
            run.dueItems(11, second[o]);
            run.dueItems(0, 1, 2, 11, 3);
            run.due(0, "parent", 11);
            run.due(1, "kind", 11);
            run.due(12, "nodes");
        }
        Run run = ones(12);
        run.due(2, "split", 1, 0);
        run.due(12, "size", 2);
        run.due(3, "split", 2, 12);
        run.due(12, "size", 2);
        run.dueItems(3);
        run.dueItems(0, 1, 2, 3);
    }

    private static void splitWithAParent() {
        sentence("Promise 7", "put in with index i + 1, after which places (p, i + 1) become (p, i + 2), and ...");
        int[][] middle = {
            stays(0, 0), stays(0, 1), {0, 2, 0, 3}, {0, 3, 0, 4}, stays(2, 0), stays(2, 1), stays(2, 2),
            {2, 3, 11, 1}, {2, 4, 11, 2}, stays(1, 2), stays(3, 0), stays(5, 1), stays(8, 1),
        };
        moves(BoundaryTest::family, middle, 11, "split", 2, 2);
        int[][] atZero = {stays(0, 1), {0, 2, 0, 3}, stays(2, 0), {2, 1, 11, 1}, {2, 4, 11, 4}};
        moves(BoundaryTest::family, atZero, 11, "split", 2, 0);
        int[][] atTheEnd = {stays(0, 1), {0, 2, 0, 3}, {0, 3, 0, 4}, stays(2, 0), stays(2, 3), stays(2, 4)};
        moves(BoundaryTest::family, atTheEnd, 11, "split", 2, 4);
        int[][] lastChild = {stays(3, 0), stays(3, 1), {3, 2, 3, 3}, stays(7, 0), stays(0, 3), stays(5, 2)};
        moves(BoundaryTest::family, lastChild, 11, "split", 7, 0);
        int[][] otherTree = {stays(9, 0), {9, 1, 9, 2}, stays(10, 0), {10, 1, 11, 1}, stays(0, 1)};
        moves(BoundaryTest::family, otherTree, 11, "split", 10, 0);
    }

    private static void splitWithoutAParent() {
        sentence("Promise 7", "If it has no parent ..., places (text, q) with q above o become (text, o)");
        int[][][] moved = {
            {stays(8, 0), {8, 1, 8, 0}, {8, 2, 8, 0}},
            {stays(8, 0), stays(8, 1), {8, 2, 8, 1}},
            {stays(8, 0), stays(8, 1), stays(8, 2)},
        };
        int[][] first = {{}, {9}, {9, 0}};
        int[][] second = {{9, 0}, {0}, {}};
        for (int o = 0; o <= 2; o++) {
            moves(BoundaryTest::family, moved[o], 11, "split", 8, o);
            moves(BoundaryTest::family, new int[][] {stays(0, 1), stays(0, 3), stays(2, 4), stays(9, 1)},
                11, "split", 8, o);
            Run run = family();
            run.due(11, "split", 8, o);
            run.dueItems(8, first[o]);
            run.dueItems(11, second[o]);
            run.due(-2, "parent", 8);
            run.due(-2, "parent", 11);
            run.due(1, "setStart", 0, 8, 0);
            run.due(1, "setStart", 1, 11, 0);
            run.due(2, "compare", 0, 0, 1, 0);
        }
    }

    private static void splitNoText() {
        sentence("Promise 7", "Text: -1");
        Run run = busy();
        int[] elements = {0, 1, 3, 6, 9};
        for (int n : elements) {
            run.refused(-1, "split", n, 0);
        }
        for (int n : NO_NODES) {
            run.refused(-1, "split", n, 0);
        }
    }

    private static void splitAtNoOffset() {
        sentence("Promise 7", "o is not from 0 to the number of letters: -2");
        int[][] sizes = {{2, 4}, {4, 2}, {7, 0}, {8, 2}, {10, 1}};
        for (int[] entry : sizes) {
            Run run = busy();
            int[] wrongs = {-1, entry[1] + 1, entry[1] + 2, LEAST, GREATEST};
            for (int o : wrongs) {
                run.refused(-2, "split", entry[0], o);
            }
            run.due(11, "split", entry[0], entry[1]);
        }
    }

    private static void splitWith24Nodes() {
        sentence("Promise 7", "there are 24 nodes: -3");
        Run run = busy();
        for (int n = 11; n < 23; n++) {
            run.due(n, "text");
        }
        Run other = run.again();
        run.due(23, "split", 2, 2);
        run.refused(-3, "split", 2, 0);
        run.refused(-3, "split", 23, 1);
        run.refused(-3, "split", 8, 1);
        run.refused(-2, "split", 23, 3);
        other.due(23, "split", 8, 1);
        other.refused(-3, "split", 2, 2);
    }

    // ---- Promise 8

    private static void joinMoves() {
        sentence("Promise 8", "places (s, q) become (text, m + q), places (p, index of s) become (text, m)");
        int[][] moved = {
            stays(0, 0), stays(0, 1), {0, 2, 2, 4}, {0, 3, 0, 2}, {0, 4, 0, 3}, stays(2, 0), stays(2, 4), {8, 0, 2, 4},
            {8, 1, 2, 5}, {8, 2, 2, 6}, stays(1, 2), stays(3, 0), stays(5, 1), stays(9, 1), stays(10, 1),
        };
        moves(BoundaryTest::neighbours, moved, 8, "join", 2);
        int[][] withoutLetters = {
            stays(3, 0), {3, 1, 5, 2}, {3, 2, 3, 1}, {7, 0, 5, 2}, stays(5, 0), stays(5, 2), stays(0, 3),
        };
        moves(BoundaryTest::family, withoutLetters, 7, "join", 5);
        Supplier<Run> emptyFirst = () -> {
            Run run = family();
            run.due(2, "put", 3, 7, 0);
            return run;
        };
        int[][] toNoLetters = {
            stays(3, 0), {3, 1, 7, 0}, {3, 2, 3, 1}, stays(7, 0), {5, 0, 7, 0}, {5, 1, 7, 1}, {5, 2, 7, 2},
        };
        moves(emptyFirst, toNoLetters, 5, "join", 7);
    }

    private static void joinTakesOut() {
        sentence("Promise 8", "s, without letters then, is taken out");
        Run run = neighbours();
        run.due(8, "join", 2);
        run.dueItems(2, 1, 2, 3, 4, 9, 0);
        run.dueItems(8);
        run.due(-2, "parent", 8);
        run.dueItems(0, 1, 2, 3);
        run.due(11, "nodes");
    }

    private static void joinNoText() {
        sentence("Promise 8", "Text: -1");
        Run run = busy();
        int[] elements = {0, 1, 3, 6, 9};
        for (int n : elements) {
            run.refused(-1, "join", n);
        }
        for (int n : NO_NODES) {
            run.refused(-1, "join", n);
        }
    }

    private static void joinWithNothing() {
        sentence("Promise 8", "it has no parent, or there is no next child, or that is no text: -2");
        Run run = busy();
        run.refused(-2, "join", 8);
        run.refused(-2, "join", 7);
        run.refused(-2, "join", 10);
        run.refused(-2, "join", 2);
        run.refused(-2, "join", 4);
        run.due(2, "take", 3);
        run.refused(-2, "join", 2);
        run.due(1, "take", 7);
        run.refused(-2, "join", 5);
        run.due(3, "put", 0, 8, 1);
        run.refused(-2, "join", 2);
        run.due(2, "join", 8);
        run.refused(-2, "join", 8);
        run = wide();
        run.refused(-2, "join", 23);
        run.due(23, "join", 22);
        run.refused(-2, "join", 22);
    }

    private static void joinWithinTwelve() {
        sentence("Promise 8", "they have more than 12 letters together: -3");
        for (int own = 0; own <= 12; own++) {
            for (int more = 0; more <= 1; more++) {
                Run run = ones(own);
                run.due(2, "text");
                run.due(2, "put", 0, 2, 1);
                int others = Math.min(12, 12 - own + more);
                for (int i = 0; i < others; i++) {
                    run.call("replace", 2, i, 0, 2);
                }
                run.set(0, 1, own, 2, others);
                if (own + others > 12) {
                    run.refused(-3, "join", 1);
                } else {
                    run.due(2, "join", 1);
                    run.due(12, "size", 1);
                    run.dueRange(0, 1, own, 1, 12);
                }
            }
        }
    }

    // ---- Promises 9 and 10

    private static void setStartBeforeAndBehind() {
        sentence("Promise 9", "if the end is in another tree or before it, the end does too");
        for (int i = 0; i < IN_ORDER.length; i++) {
            for (int j = 0; j < IN_ORDER.length; j++) {
                int[] end = IN_ORDER[i];
                int[] start = IN_ORDER[j];
                int[] endThen = i < j ? start : end;
                Run run = family();
                run.set(1, 0, 0, end[0], end[1]);
                run.due(1, "setStart", 1, start[0], start[1]);
                run.dueRange(1, start[0], start[1], endThen[0], endThen[1]);
            }
        }
    }

    private static void setStartInAnotherTree() {
        sentence("Promise 9", "if the end is in another tree or before it, the end does too");
        int[][] places = {{8, 0}, {8, 2}, {9, 0}, {9, 1}, {10, 0}, {10, 1}};
        for (int[] place : places) {
            Run run = family();
            run.set(2, 0, 0, 0, 3);
            run.due(1, "setStart", 2, place[0], place[1]);
            run.dueRange(2, place[0], place[1], place[0], place[1]);
            run.due(1, "setStart", 2, 0, 0);
            run.dueRange(2, 0, 0, 0, 0);
        }
        Run run = family();
        run.set(2, 4, 1, 4, 2);
        run.due(0, "take", 1);
        run.due(1, "setStart", 2, 4, 0);
        run.dueRange(2, 4, 0, 4, 0);
    }

    private static void setStartRefused() {
        sentence("Promise 9", "Range: -1; node that there is not: -1; o is no offset in it: -2");
        Run run = busy();
        for (int range : NO_RANGES) {
            run.refused(-1, "setStart", range, 0, 0);
        }
        for (int n : NO_NODES) {
            run.refused(-1, "setStart", 3, n, 0);
        }
        int[][] wrongs = {
            {0, 4}, {0, -1}, {6, 1}, {6, -1}, {7, 1}, {7, -1}, {2, 5}, {2, LEAST}, {2, GREATEST}, {0, GREATEST},
        };
        for (int[] place : wrongs) {
            run.refused(-2, "setStart", 3, place[0], place[1]);
        }
    }

    private static void setEndBeforeAndBehind() {
        sentence("Promise 10", "if the start is in another tree or behind it, the start does too");
        for (int i = 0; i < IN_ORDER.length; i++) {
            for (int j = 0; j < IN_ORDER.length; j++) {
                int[] start = IN_ORDER[i];
                int[] end = IN_ORDER[j];
                int[] startThen = i > j ? end : start;
                Run run = family();
                run.set(1, start[0], start[1], 0, 3);
                run.due(1, "setEnd", 1, end[0], end[1]);
                run.dueRange(1, startThen[0], startThen[1], end[0], end[1]);
            }
        }
    }

    private static void setEndInAnotherTree() {
        sentence("Promise 10", "if the start is in another tree or behind it, the start does too");
        int[][] places = {{8, 0}, {8, 2}, {9, 0}, {9, 1}, {10, 0}, {10, 1}};
        for (int[] place : places) {
            Run run = family();
            run.set(2, 0, 0, 0, 3);
            run.due(1, "setEnd", 2, place[0], place[1]);
            run.dueRange(2, place[0], place[1], place[0], place[1]);
            run.due(1, "setEnd", 2, 0, 3);
            run.dueRange(2, 0, 3, 0, 3);
        }
        Run run = family();
        run.set(2, 4, 1, 4, 2);
        run.due(0, "take", 1);
        run.due(1, "setEnd", 2, 4, 2);
        run.dueRange(2, 4, 2, 4, 2);
    }

    private static void setEndRefused() {
        sentence("Promise 10", "Range: -1; node that there is not: -1; o is no offset in it: -2");
        Run run = busy();
        for (int range : NO_RANGES) {
            run.refused(-1, "setEnd", range, 0, 0);
        }
        for (int n : NO_NODES) {
            run.refused(-1, "setEnd", 3, n, 0);
        }
        int[][] wrongs = {
            {0, 4}, {0, -1}, {6, 1}, {6, -1}, {7, 1}, {7, -1}, {2, 5}, {2, LEAST}, {2, GREATEST}, {0, GREATEST},
        };
        for (int[] place : wrongs) {
            run.refused(-2, "setEnd", 3, place[0], place[1]);
        }
    }

    // ---- Promise 11

    private static void eraseNoRange() {
        sentence("Promise 11", "Range: -1");
        Run run = busy();
        for (int range : NO_RANGES) {
            run.refused(-1, "erase", range);
        }
    }

    private static void eraseNothing() {
        sentence("Promise 11", "if they are the same place, nothing happens");
        for (int[] place : IN_ORDER) {
            Run run = busy();
            run.set(1, place[0], place[1], place[0], place[1]);
            run.same(0, "erase", 1);
        }
        Run run = busy();
        run.set(1, 8, 1, 8, 1);
        run.same(0, "erase", 1);
        run.set(1, 9, 1, 9, 1);
        run.same(0, "erase", 1);
    }

    private static void eraseInOneText() {
        sentence("Promise 11", "if s is e and a text, its letters from a to b - 1 are replaced by none");
        int[] letters = {1, 2, 3, 4};
        for (int a = 0; a < 4; a++) {
            for (int b = a + 1; b <= 4; b++) {
                int[] left = new int[4 - (b - a)];
                System.arraycopy(letters, 0, left, 0, a);
                System.arraycopy(letters, b, left, a, 4 - b);
                Run run = family();
                run.set(0, 2, a, 2, b);
                run.set(1, 2, 0, 2, 4);
                run.set(2, 0, 1, 0, 2);
                run.set(3, 2, b, 0, 3);
                run.due(0, "erase", 0);
                run.dueItems(2, left);
                run.dueItems(0, 1, 2, 3);
                run.dueRange(0, 2, a, 2, a);
                run.dueRange(1, 2, 0, 2, left.length);
                run.dueRange(2, 0, 1, 0, 2);
                run.dueRange(3, 2, a, 0, 3);
            }
        }
        Run run = family();
        run.set(0, 8, 0, 8, 2);
        run.due(0, "erase", 0);
        run.dueItems(8);
        run.dueRange(0, 8, 0, 8, 0);
    }

    /** The range from (s, a) to (e, b), erased: how many are taken out, and where the range is then. */
    private static Run erased(Supplier<Run> maker, int[] range, int out, int x, int y) {
        Run run = maker.get();
        run.set(0, range[0], range[1], range[2], range[3]);
        run.due(out, "erase", 0);
        run.dueRange(0, x, y, x, y);
        return run;
    }

    private static void eraseAcrossTexts() {
        sentence("Promise 11",
            "if s is a text, its letters from a on are ...; if e is a text, its first b letters are replaced");
        int[][] all = {{2, 0, 8, 2}, {2, 2, 8, 1}, {2, 4, 8, 0}, {2, 0, 8, 0}, {2, 4, 8, 2}};
        int[][] first = {{}, {1, 2}, {1, 2, 3, 4}, {}, {1, 2, 3, 4}};
        int[][] second = {{}, {0}, {9, 0}, {9, 0}, {}};
        for (int i = 0; i < all.length; i++) {
            Run run = erased(BoundaryTest::neighbours, all[i], 0, 0, 2);
            run.dueItems(2, first[i]);
            run.dueItems(8, second[i]);
            run.dueItems(0, 1, 2, 8, 3);
        }
    }

    private static void eraseAcrossElements() {
        sentence("Promise 11", "all nodes whose rows lie wholly between start and end");
        Run run = erased(BoundaryTest::family, new int[] {4, 1, 5, 1}, 2, 0, 1);
        run.dueItems(0, 1, 3);
        run.dueItems(1, 4);
        run.dueItems(4, 5);
        run.dueItems(5, 8);
        run.dueItems(3, 5, 7);
        run = erased(BoundaryTest::family, new int[] {1, 1, 3, 1}, 3, 0, 1);
        run.dueItems(0, 1, 3);
        run.dueItems(1, 4);
        run.dueItems(3, 7);
        run.dueItems(5, 7, 8);
        run = erased(BoundaryTest::family, new int[] {1, 2, 3, 0}, 1, 0, 1);
        run.dueItems(0, 1, 3);
        run.dueItems(1, 4, 6);
        run.dueItems(3, 5, 7);
        run = erased(BoundaryTest::family, new int[] {6, 0, 7, 0}, 2, 0, 1);
        run.dueItems(0, 1, 3);
        run.dueItems(1, 4, 6);
        run.dueItems(3, 7);
        run = erased(BoundaryTest::family, new int[] {1, 0, 3, 2}, 5, 0, 1);
        run.dueItems(0, 1, 3);
        run.dueItems(1);
        run.dueItems(3);
        run = erased(BoundaryTest::family, new int[] {4, 2, 2, 0}, 1, 0, 1);
        run.dueItems(1, 4);
        run.dueItems(2, 1, 2, 3, 4);
    }

    private static void eraseWithinOneElement() {
        sentence("Promise 11", "let (x, y) be (s, a) if e is s");
        Run run = erased(BoundaryTest::family, new int[] {0, 0, 0, 3}, 3, 0, 0);
        run.dueItems(0);
        run = erased(BoundaryTest::family, new int[] {0, 1, 0, 2}, 1, 0, 1);
        run.dueItems(0, 1, 3);
        run.dueItems(2, 1, 2, 3, 4);
        run = erased(BoundaryTest::family, new int[] {1, 0, 1, 2}, 2, 1, 0);
        run.dueItems(1);
        run = erased(BoundaryTest::family, new int[] {3, 1, 3, 2}, 1, 3, 1);
        run.dueItems(3, 5);
        run = erased(BoundaryTest::family, new int[] {9, 0, 9, 1}, 1, 9, 0);
        run.dueItems(9);
        run = erased(BoundaryTest::wide, new int[] {0, 0, 0, 23}, 23, 0, 0);
        run.dueItems(0);
    }

    private static void eraseDownwards() {
        sentence("Promise 11", "let (x, y) be (s, a) if e is s or below it");
        Run run = erased(BoundaryTest::family, new int[] {0, 0, 5, 1}, 2, 0, 0);
        run.dueItems(0, 3);
        run.dueItems(3, 5, 7);
        run.dueItems(5, 8);
        run = erased(BoundaryTest::family, new int[] {0, 2, 5, 0}, 0, 0, 2);
        run.dueItems(0, 1, 2, 3);
        run.dueItems(5, 7, 8);
        run = erased(BoundaryTest::family, new int[] {3, 0, 7, 0}, 1, 3, 0);
        run.dueItems(3, 7);
        run = erased(BoundaryTest::family, new int[] {9, 0, 10, 1}, 0, 9, 0);
        run.dueItems(10);
        run.dueItems(9, 10);
        erased(BoundaryTest::deep, new int[] {0, 0, 23, 0}, 0, 0, 0);
    }

    private static void eraseUpwards() {
        sentence("Promise 11",
            "the node that s is or is below, whose parent is e or has e below it, and that is nearest to s");
        Run run = erased(BoundaryTest::family, new int[] {4, 1, 0, 3}, 3, 0, 1);
        run.dueItems(0, 1);
        run.dueItems(1, 4);
        run.dueItems(4, 5);
        run = erased(BoundaryTest::family, new int[] {4, 0, 1, 2}, 1, 1, 1);
        run.dueItems(1, 4);
        run.dueItems(4);
        run = erased(BoundaryTest::family, new int[] {4, 1, 6, 0}, 0, 1, 1);
        run.dueItems(1, 4, 6);
        run.dueItems(4, 5);
        run = erased(BoundaryTest::family, new int[] {6, 0, 1, 2}, 0, 1, 2);
        run.dueItems(1, 4, 6);
        run = erased(BoundaryTest::family, new int[] {2, 0, 0, 3}, 1, 0, 2);
        run.dueItems(0, 1, 2);
        run.dueItems(2);
        run = erased(BoundaryTest::family, new int[] {10, 0, 9, 1}, 0, 9, 1);
        run.dueItems(10);
        erased(BoundaryTest::deep, new int[] {23, 0, 0, 1}, 0, 0, 1);
        erased(BoundaryTest::deep, new int[] {23, 0, 11, 1}, 0, 11, 1);
    }

    private static void eraseNotWhatIsBelow() {
        sentence("Promise 11", "but not those that are below other ones of these");
        Run run = erased(BoundaryTest::family, new int[] {0, 0, 0, 1}, 1, 0, 0);
        run.dueItems(0, 2, 3);
        run.dueItems(1, 4, 6);
        run.dueItems(4, 5, 6);
        run.due(1, "parent", 4);
        run.due(1, "parent", 6);
        run.due(-2, "parent", 1);
        run = erased(BoundaryTest::deep, new int[] {0, 0, 0, 1}, 1, 0, 0);
        for (int n = 2; n < 24; n++) {
            run.due(n - 1, "parent", n);
        }
        run.due(-2, "parent", 1);
        run = erased(BoundaryTest::deep, new int[] {10, 0, 10, 1}, 1, 10, 0);
        run.due(11, "parent", 12);
        run.due(-2, "parent", 11);
    }

    private static void eraseMovesOthers() {
        sentence("Promise 11", "the nodes of N are taken out one by one");
        Supplier<Run> maker = () -> family().set(0, 4, 1, 5, 1);
        int[][] places = {
            stays(0, 0), {0, 2, 0, 1}, {0, 3, 0, 2}, stays(0, 1), {2, 0, 0, 1}, {2, 4, 0, 1}, {6, 0, 1, 1},
            {1, 2, 1, 1},
            stays(1, 1), stays(1, 0), stays(4, 0), stays(4, 1), {4, 2, 4, 1}, stays(5, 0), {5, 1, 5, 0}, {5, 2, 5, 1},
            stays(3, 0), stays(3, 1), stays(7, 0), stays(8, 2), stays(10, 1),
        };
        for (int[] place : places) {
            Run run = maker.get();
            for (int range = 1; range < 4; range++) {
                run.set(range, place[0], place[1], place[0], place[1]);
            }
            run.due(2, "erase", 0);
            for (int range = 1; range < 4; range++) {
                run.dueRange(range, place[2], place[3], place[2], place[3]);
            }
            run.dueRange(0, 0, 1, 0, 1);
        }
    }

    private static void eraseLeavesAnEmptyRange() {
        sentence("Promise 11", "At last start and end of this range both become (x, y)");
        for (int i = 0; i < IN_ORDER.length; i++) {
            for (int j = i; j < IN_ORDER.length; j++) {
                Run run = family();
                run.set(3, IN_ORDER[i][0], IN_ORDER[i][1], IN_ORDER[j][0], IN_ORDER[j][1]);
                run.call("erase", 3);
                run.due(0, "compare", 3, 0, 3, 1);
                run.due(0, "letters", 3);
                run.same(0, "erase", 3);
            }
        }
    }

    // ---- Promises 12 to 16

    private static void nodesOneTo24() {
        sentence("Promise 12", "How many nodes there are");
        Run run = new Run();
        run.same(1, "nodes");
        for (int n = 1; n < 24; n++) {
            run.call("element");
            run.due(n + 1, "nodes");
        }
        run.refused(-2, "element");
        run.same(24, "nodes");
    }

    private static void kindOfNoNode() {
        sentence("Promise 13", "0 for an element, 1 for a text; -1");
        Run run = busy();
        int[] kinds = {0, 0, 1, 0, 1, 1, 0, 1, 1, 0, 1};
        for (int n = 0; n < kinds.length; n++) {
            run.same(kinds[n], "kind", n);
        }
        for (int n : NO_NODES) {
            run.same(-1, "kind", n);
        }
        run = full();
        run.same(1, "kind", 23);
        run.same(-1, "kind", 24);
    }

    private static void sizeOfNoNode() {
        sentence("Promise 14", "How many children or letters a node has; -1");
        Run run = busy();
        int[] sizes = {3, 2, 4, 2, 2, 2, 0, 0, 2, 1, 1};
        for (int n = 0; n < sizes.length; n++) {
            run.same(sizes[n], "size", n);
        }
        for (int n : NO_NODES) {
            run.same(-1, "size", n);
        }
        wide().same(23, "size", 0);
        ones(12).same(12, "size", 1);
        full().same(-1, "size", 24);
    }

    private static void parentOfNoNode() {
        sentence("Promise 15", "A node's parent; node: -1; it has none: -2");
        Run run = busy();
        int[] parents = {-2, 0, 0, 0, 1, 3, 1, 3, -2, -2, 9};
        for (int n = 0; n < parents.length; n++) {
            run.same(parents[n], "parent", n);
        }
        for (int n : NO_NODES) {
            run.same(-1, "parent", n);
        }
        run = deep();
        run.same(22, "parent", 23);
        run.same(-1, "parent", 24);
    }

    private static void itemOfNoIndex() {
        sentence("Promise 16", "node: -1; there is none: -2");
        int[] sizes = {3, 2, 4, 2, 2, 2, 0, 0, 2, 1, 1};
        for (int n = 0; n < sizes.length; n++) {
            Run run = busy();
            int[] wrongs = {-1, sizes[n], sizes[n] + 1, 12, 23, 24, LEAST, GREATEST};
            for (int index : wrongs) {
                run.same(-2, "item", n, index);
            }
        }
        Run run = busy();
        for (int n : NO_NODES) {
            run.same(-1, "item", n, 0);
            run.same(-1, "item", n, -1);
        }
        run.dueItems(2, 1, 2, 3, 4);
        run = wide();
        run.same(1, "item", 0, 0);
        run.same(23, "item", 0, 22);
        run.same(-2, "item", 0, 23);
        run = ones(12);
        run.same(1, "item", 1, 11);
        run.same(-2, "item", 1, 12);
    }

    private static void itemThatIsGone() {
        sentence("Promise 16", "there is none: -2");
        Run run = family();
        run.due(2, "take", 3);
        run.same(-2, "item", 0, 2);
        run.due(1, "replace", 2, 1, 3, -1);
        run.same(-2, "item", 2, 1);
        run.due(11, "split", 2, 0);
        run.same(-2, "item", 2, 0);
        run.same(1, "item", 11, 0);
        run.due(11, "join", 2);
        run.same(-2, "item", 11, 0);
        run.same(-2, "item", 0, 2);
    }

    // ---- Promises 17 to 19

    private static void nodeOfNoRange() {
        sentence("Promise 17", "Range, or which is not 0 or 1: -1");
        Run run = busy();
        run.same(4, "nodeOf", 0, 0);
        run.same(5, "nodeOf", 0, 1);
        run.same(9, "nodeOf", 3, 0);
        run.same(10, "nodeOf", 3, 1);
        for (int range : NO_RANGES) {
            run.same(-1, "nodeOf", range, 0);
            run.same(-1, "nodeOf", range, 1);
        }
        for (int which : NO_WHICHES) {
            run.same(-1, "nodeOf", 0, which);
            run.same(-1, "nodeOf", 3, which);
            run.same(-1, "nodeOf", -1, which);
        }
    }

    private static void offsetOfNoRange() {
        sentence("Promise 18", "Range, or which is not 0 or 1: -1");
        Run run = busy();
        run.same(2, "offsetOf", 1, 0);
        run.same(2, "offsetOf", 2, 1);
        run.same(0, "offsetOf", 3, 0);
        run.same(1, "offsetOf", 3, 1);
        for (int range : NO_RANGES) {
            run.same(-1, "offsetOf", range, 0);
            run.same(-1, "offsetOf", range, 1);
        }
        for (int which : NO_WHICHES) {
            run.same(-1, "offsetOf", 0, which);
            run.same(-1, "offsetOf", 3, which);
            run.same(-1, "offsetOf", -1, which);
        }
    }

    private static void compareNoRange() {
        sentence("Promise 19", "A range, or one of which and otherWhich, out of range: -2");
        Run run = busy();
        for (int range : NO_RANGES) {
            run.same(-2, "compare", range, 0, 0, 0);
            run.same(-2, "compare", 0, 0, range, 0);
            run.same(-2, "compare", range, 1, range, 1);
        }
        for (int which : NO_WHICHES) {
            run.same(-2, "compare", 0, which, 0, 0);
            run.same(-2, "compare", 3, which, 3, 1);
            run.same(-2, "compare", 0, 0, 0, which);
            run.same(-2, "compare", 3, 1, 3, which);
        }
    }

    private static void compareStartsAndEnds() {
        sentence("Promise 19", "-1 if it is before it, 0 if they are one place, 1 if it is behind it");
        Run run = family();
        run.set(0, 2, 0, 2, 4);
        run.set(1, 2, 4, 0, 2);
        run.set(2, 0, 1, 0, 2);
        run.due(0, "compare", 0, 1, 1, 0);
        run.due(0, "compare", 1, 1, 2, 1);
        run.due(-1, "compare", 0, 1, 1, 1);
        run.due(1, "compare", 1, 1, 0, 1);
        run.due(1, "compare", 0, 0, 2, 0);
        run.due(-1, "compare", 2, 0, 0, 0);
        run.due(-1, "compare", 3, 0, 2, 0);
        run.due(0, "compare", 3, 0, 3, 1);
    }

    private static void compareOtherTrees() {
        sentence("Promise 19", "2 if they are in different trees");
        Run run = busy();
        int[] trees = {0, 0, 8, 9};
        for (int range = 0; range < 4; range++) {
            for (int other = 0; other < 4; other++) {
                if (trees[range] != trees[other]) {
                    run.due(2, "compare", range, 0, other, 0);
                    run.due(2, "compare", range, 1, other, 1);
                }
            }
            run.due(-1, "compare", range, 0, range, 1);
            run.due(1, "compare", range, 1, range, 0);
            run.due(0, "compare", range, 1, range, 1);
        }
        run.due(4, "put", 0, 9, 0);
        run.due(-1, "compare", 3, 1, 0, 0);
        run.due(0, "take", 9);
        run.due(-1, "compare", 3, 1, 0, 0);
        run.dueRange(3, 0, 0, 0, 0);
    }

    // ---- Promises 20 to 22

    /** How many letters of the root's tree in the family stand before each place of IN_ORDER. */
    private static final int[] LETTERS_BEFORE = {0, 0, 0, 1, 2, 2, 2, 2, 2, 2, 3, 4, 5, 6, 6, 6, 6, 7, 8, 8, 8, 8, 8};
    private static final int[] LETTERS = {5, 6, 1, 2, 3, 4, 7, 8};

    private static void lettersBetweenAnyTwo() {
        sentence("Promise 20", "How many letters stand between a range's start and end");
        for (int i = 0; i < IN_ORDER.length; i++) {
            Run run = family();
            run.due(1, "setStart", 0, IN_ORDER[i][0], IN_ORDER[i][1]);
            for (int j = i; j < IN_ORDER.length; j++) {
                run.due(1, "setEnd", 0, IN_ORDER[j][0], IN_ORDER[j][1]);
                run.due(LETTERS_BEFORE[j] - LETTERS_BEFORE[i], "letters", 0);
            }
        }
    }

    private static void lettersOfNoRange() {
        sentence("Promise 20", "Range: -1");
        Run run = busy();
        for (int range : NO_RANGES) {
            run.same(-1, "letters", range);
        }
        run.same(1, "letters", 2);
        run.same(1, "letters", 3);
    }

    /** The root's 23 children are texts of 12 letters each, 111122223333. */
    private static Run mostLetters() {
        Run run = wide();
        for (int n = 1; n < 24; n++) {
            run.call("replace", n, 0, 0, 3333);
            run.call("replace", n, 0, 0, 2222);
            run.call("replace", n, 0, 0, 1111);
        }
        return run;
    }

    private static void mostLettersBetween() {
        sentence("Promise 20", "How many letters stand between a range's start and end");
        Run run = mostLetters();
        run.set(0, 0, 0, 0, 23);
        run.due(276, "letters", 0);
        run.set(1, 1, 0, 23, 12);
        run.due(276, "letters", 1);
        run.set(2, 1, 12, 23, 0);
        run.due(252, "letters", 2);
    }

    private static void letterInAnyTwo() {
        sentence("Promise 21", "The k-th (0 for the first) of these letters ... there is none: -2");
        for (int i = 0; i < IN_ORDER.length; i++) {
            for (int j = i; j < IN_ORDER.length; j++) {
                Run run = family();
                run.set(0, IN_ORDER[i][0], IN_ORDER[i][1], IN_ORDER[j][0], IN_ORDER[j][1]);
                int count = LETTERS_BEFORE[j] - LETTERS_BEFORE[i];
                for (int k = 0; k < count; k++) {
                    run.due(LETTERS[LETTERS_BEFORE[i] + k], "letterIn", 0, k);
                }
                int[] wrongs = {-1, -2, count, count + 1, LEAST, GREATEST};
                for (int k : wrongs) {
                    run.due(-2, "letterIn", 0, k);
                }
            }
        }
    }

    private static void letterInMostLetters() {
        sentence("Promise 21", "The k-th (0 for the first) of these letters ... there is none: -2");
        Run run = mostLetters();
        run.set(0, 0, 0, 0, 23);
        for (int k = 0; k < 276; k++) {
            run.due(k % 12 / 4 + 1, "letterIn", 0, k);
        }
        run.due(-2, "letterIn", 0, 276);
        run.due(-2, "letterIn", 0, -1);
    }

    private static void letterInNoRange() {
        sentence("Promise 21", "Range: -1");
        Run run = busy();
        for (int range : NO_RANGES) {
            run.same(-1, "letterIn", range, 0);
            run.same(-1, "letterIn", range, -1);
        }
        run.same(0, "letterIn", 2, 0);
        run.same(-2, "letterIn", 2, 1);
        run.same(-2, "letterIn", 2, -1);
    }

    /** Of each node of the root's tree in the family, the places of IN_ORDER directly ahead of and behind its row. */
    private static final int[][] ROWS = {
        {1, 0, 8}, {4, 1, 5}, {6, 5, 7}, {2, 8, 14}, {3, 14, 22}, {5, 15, 19}, {7, 19, 21},
    };

    private static void holdsBetweenAnyTwo() {
        sentence("Promise 22", "1 if a node's row lies wholly between a range's start and end, else 0");
        for (int i = 0; i < IN_ORDER.length; i++) {
            for (int j = i; j < IN_ORDER.length; j++) {
                Run run = family();
                run.set(0, IN_ORDER[i][0], IN_ORDER[i][1], IN_ORDER[j][0], IN_ORDER[j][1]);
                for (int[] row : ROWS) {
                    run.due(i <= row[1] && row[2] <= j ? 1 : 0, "holds", 0, row[0]);
                }
                run.due(0, "holds", 0, 0);
                run.due(0, "holds", 0, 8);
                run.due(0, "holds", 0, 9);
                run.due(0, "holds", 0, 10);
            }
        }
    }

    private static void holdsInOtherTrees() {
        sentence("Promise 22", "1 if a node's row lies wholly between a range's start and end, else 0");
        Run run = family();
        run.set(0, 9, 0, 9, 1);
        run.same(1, "holds", 0, 10);
        run.same(0, "holds", 0, 9);
        run.same(0, "holds", 0, 0);
        run.same(0, "holds", 0, 4);
        run.set(1, 8, 0, 8, 2);
        run.same(0, "holds", 1, 8);
        run.same(0, "holds", 1, 2);
        run = deep();
        run.set(0, 0, 0, 0, 1);
        run.same(1, "holds", 0, 23);
        run.same(1, "holds", 0, 1);
        run.same(0, "holds", 0, 0);
        run.set(0, 22, 0, 0, 1);
        run.same(1, "holds", 0, 23);
        run.same(0, "holds", 0, 22);
    }

    private static void holdsNoRangeOrNode() {
        sentence("Promise 22", "Range: -1; node: -1");
        Run run = busy();
        for (int range : NO_RANGES) {
            run.same(-1, "holds", range, 0);
        }
        for (int n : NO_NODES) {
            run.same(-1, "holds", 0, n);
        }
        run.same(-1, "holds", LEAST, GREATEST);
        full().same(-1, "holds", 0, 24);
    }

    private static void terms() {
        theLastCall();
        atMost24Nodes();
        noNodeIsGivenUp();
        atMost12Letters();
        lettersFrom0To9();
        atMostOneParent();
        theIndexOfAChild();
        theRoot();
        belowAtAnyDepth();
        offsetsOfPlaces();
        offsetsAfterAChange();
        placesInOrder();
        placesInOrderOfAnyTree();
        fourRanges();
        rangesAtFirst();
        rangesStayInOneTree();
        takingOutMovesFromTheChild();
        takingOutMovesFromFarBelow();
        takingOutMovesInTheParent();
        puttingInMovesInTheParent();
        puttingInShiftsChildren();
        replacingMoves();
        replacingMovesNothingElsewhere();
        refusedCallsChangeNothing();
        testsInTheirOrder();
        noSuchNode();
        noSuchRange();
        questionsChangeNothing();
    }

    private static void promises1To6() {
        aNewObject();
        twentyThreeElements();
        twentyThreeTexts();
        putTakesOutFirst();
        putNoElementOrNoNode();
        putTheRootOrIntoItself();
        putAtNoIndex();
        putAnswersTheSize();
        putTheMostChildren();
        putCountsWithoutTheChild();
        takeNoNode();
        takeWithoutParent();
        takeAnswersTheIndex();
        replaceNoText();
        replaceFromNoNumber();
        replaceTooMany();
        replaceByNoLetters();
        replaceWithinTwelve();
        replaceByDigits();
        replaceNothing();
    }

    private static void promises7To11() {
        splitAnywhere();
        splitWithAParent();
        splitWithoutAParent();
        splitNoText();
        splitAtNoOffset();
        splitWith24Nodes();
        joinMoves();
        joinTakesOut();
        joinNoText();
        joinWithNothing();
        joinWithinTwelve();
        setStartBeforeAndBehind();
        setStartInAnotherTree();
        setStartRefused();
        setEndBeforeAndBehind();
        setEndInAnotherTree();
        setEndRefused();
        eraseNoRange();
        eraseNothing();
        eraseInOneText();
        eraseAcrossTexts();
        eraseAcrossElements();
        eraseWithinOneElement();
        eraseDownwards();
        eraseUpwards();
        eraseNotWhatIsBelow();
        eraseMovesOthers();
        eraseLeavesAnEmptyRange();
    }

    private static void promises12To22() {
        nodesOneTo24();
        kindOfNoNode();
        sizeOfNoNode();
        parentOfNoNode();
        itemOfNoIndex();
        itemThatIsGone();
        nodeOfNoRange();
        offsetOfNoRange();
        compareNoRange();
        compareStartsAndEnds();
        compareOtherTrees();
        lettersBetweenAnyTwo();
        lettersOfNoRange();
        mostLettersBetween();
        letterInAnyTwo();
        letterInMostLetters();
        letterInNoRange();
        holdsBetweenAnyTwo();
        holdsInOtherTrees();
        holdsNoRangeOrNode();
    }

    public static void main(String[] args) {
        for (Method method : LiveRanges.class.getDeclaredMethods()) {
            if (Modifier.isPublic(method.getModifiers())) {
                METHODS.put(method.getName(), method);
            }
        }
        terms();
        promises1To6();
        promises7To11();
        promises12To22();
        System.out.println(wrong == 0 ? "all answers are as due" : wrong + " answers are not as due");
        if (wrong != 0) {
            System.exit(1);
        }
    }
}
