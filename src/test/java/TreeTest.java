import static java.lang.Integer.MAX_VALUE;
import static java.lang.Integer.MIN_VALUE;

/** Promises 23 to 32: the nodes, undoing, redoing, and names. */
public final class TreeTest {

    private static final Class<?> INDEX = IndexOutOfBoundsException.class;
    private static final Class<?> STATE = IllegalStateException.class;
    private static final Class<?> NO_SUCH = java.util.NoSuchElementException.class;
    private static final int[] NO_NODES = {-1, 8, MAX_VALUE, MIN_VALUE};

    public static void main(String[] args) {
        notBegun();
        nodes();
        parents();
        depths();
        children();
        common();
        undoing();
        redoing();
        naming();
        jumping();
        undoingUnlearns();
        Check.end();
    }

    /**
     * The nodes 0 to 7: 1 (take key), 4 (look) and 7 (wait) are children of 0; 2 (look) and 3 (wait) of 1;
     * 5 (look) of 4; 6 (go n) of 5. Play is at 7.
     */
    private static Lorewick grown() {
        Lorewick x = CommandTest.begun();
        Check.sayAll(x, "take key,look");
        x.undo();
        Check.say(x, "wait");
        x.undo();
        x.undo();
        Check.sayAll(x, "look,look,go n");
        x.undo();
        x.undo();
        x.undo();
        Check.say(x, "wait");
        return x;
    }

    private static void notBegun() {
        Lorewick x = CommandTest.house();
        Check.refused(23, "not begun", STATE, () -> x.node());
        Check.refused(24, "not begun", STATE, () -> x.nodes());
        Check.refused(25, "no node", INDEX, () -> x.parent(0));
        Check.refused(26, "no node", INDEX, () -> x.depth(0));
        Check.refused(27, "no node", INDEX, () -> x.children(0));
        Check.refused(28, "no node", INDEX, () -> x.common(0, 0));
        Check.refused(29, "not begun", STATE, () -> x.undo());
        Check.refused(30, "not begun", STATE, () -> x.redo(0));
        Check.refused(31, "not begun, empty", STATE, () -> x.name());
        Check.refused(32, "not begun, empty", STATE, () -> x.jump());
        Check.type(x, "here");
        Check.refused(31, "not begun", STATE, () -> x.name());
        Check.refused(32, "not begun", STATE, () -> x.jump());
        Check.due(31, "what is typed stays", 4, () -> x.clear());
    }

    private static void nodes() {
        Lorewick x = CommandTest.begun();
        Check.due(23, "at first", 0, () -> x.node());
        Check.due(24, "at first", 1, () -> x.nodes());
        Check.say(x, "wait");
        Check.due(23, "a child", 1, () -> x.node());
        Check.due(24, "two", 2, () -> x.nodes());
        x.undo();
        Check.due(23, "undone", 0, () -> x.node());
        Check.due(24, "still two", 2, () -> x.nodes());
        Check.say(x, "take gem");
        Check.due(23, "not done", 0, () -> x.node());
        Check.due(24, "no node", 2, () -> x.nodes());
        Check.due(23, "grown", 7, () -> grown().node());
        Check.due(24, "grown", 8, () -> grown().nodes());
    }

    private static void parents() {
        Lorewick x = grown();
        int[] want = {-1, 0, 1, 1, 0, 4, 5, 0};
        for (int i = 1; i < 8; i++) {
            int node = i;
            Check.due(25, "parent of " + i, want[i], () -> x.parent(node));
        }
        Check.refused(25, "node 0", NO_SUCH, () -> x.parent(0));
        for (int bad : NO_NODES) {
            Check.refused(25, "node " + bad, INDEX, () -> x.parent(bad));
        }
    }

    private static void depths() {
        Lorewick x = grown();
        int[] want = {0, 1, 2, 2, 1, 2, 3, 1};
        for (int i = 0; i < 8; i++) {
            int node = i;
            Check.due(26, "depth of " + i, want[i], () -> x.depth(node));
        }
        for (int bad : NO_NODES) {
            Check.refused(26, "node " + bad, INDEX, () -> x.depth(bad));
        }
        Lorewick y = CommandTest.begun();
        y.hint(1);
        y.teach(0, 8);
        y.buy(0);
        for (int i = 2; i < 80; i++) {
            y.read(0);
        }
        Check.due(26, "what is bought or read leads to a node, too", 79, () -> y.depth(79));
    }

    private static void children() {
        Lorewick x = grown();
        int[] want = {3, 2, 0, 0, 1, 1, 0, 0};
        for (int i = 0; i < 8; i++) {
            int node = i;
            Check.due(27, "children of " + i, want[i], () -> x.children(node));
        }
        for (int bad : NO_NODES) {
            Check.refused(27, "node " + bad, INDEX, () -> x.children(bad));
        }
        x.undo();
        Check.say(x, "look");
        Check.due(27, "no child twice", 3, () -> x.children(0));
    }

    private static void common() {
        Lorewick x = grown();
        int[][] want = {{2, 3, 1}, {3, 2, 1}, {2, 6, 0}, {6, 5, 5}, {5, 6, 5}, {6, 4, 4}, {7, 7, 7}, {0, 6, 0}, {6, 0, 0},
            {1, 2, 1}, {7, 6, 0}, {0, 0, 0}, {2, 4, 0}};
        for (int[] row : want) {
            Check.due(28, row[0] + " and " + row[1], row[2], () -> x.common(row[0], row[1]));
        }
        for (int bad : NO_NODES) {
            Check.refused(28, "node " + bad, INDEX, () -> x.common(bad, 0));
            Check.refused(28, "other " + bad, INDEX, () -> x.common(0, bad));
        }
    }

    private static void undoing() {
        Lorewick x = grown();
        Check.due(29, "to the parent", 0, () -> x.undo());
        Check.refused(29, "at the node 0", NO_SUCH, () -> x.undo());
        Check.due(29, "stays", 0, () -> x.node());
        Check.sayAll(x, "take key,look");
        Check.due(29, "one", 1, () -> x.undo());
        Check.due(29, "the key is carried still", 100, () -> x.place(2));
        Check.due(29, "two", 0, () -> x.undo());
        Check.due(29, "not any more", 0, () -> x.place(2));
    }

    private static void redoing() {
        Lorewick x = grown();
        for (int bad : new int[] {0, -1, 1, MAX_VALUE, MIN_VALUE}) {
            Check.refused(30, "no child " + bad, NO_SUCH, () -> x.redo(bad));
        }
        x.undo();
        int[] want = {1, 4, 7};
        for (int i = 0; i < 3; i++) {
            int index = i;
            Check.due(30, "child " + i, want[i], () -> x.redo(index));
            Check.due(30, "is there", want[i], () -> x.node());
            x.undo();
        }
        for (int bad : new int[] {-1, 3, MAX_VALUE, MIN_VALUE}) {
            Check.refused(30, "no child " + bad, NO_SUCH, () -> x.redo(bad));
        }
        Check.due(30, "stays", 0, () -> x.node());
        x.redo(0);
        Check.due(30, "second child of 1", 3, () -> x.redo(1));
        Check.due(30, "the key is carried again", 100, () -> x.place(2));
        Lorewick y = CommandTest.begun();
        Check.say(y, "light lamp");
        y.undo();
        y.redo(0);
        Check.due(30, "nothing burns by it", 9, () -> y.lit(0));
    }

    private static void naming() {
        Lorewick x = grown();
        for (String text : new String[] {"", " ", "a b", "abcdefghi", "a "}) {
            Check.type(x, text);
            Check.refused(31, "'" + text + "'", IllegalArgumentException.class, () -> x.name());
            Check.due(31, "stays typed", text.length(), () -> x.clear());
        }
        Check.due(31, "first", 1, () -> Check.name(x, "a"));
        Check.due(31, "taken", 0, () -> x.clear());
        Check.due(31, "the same again", 1, () -> Check.name(x, "a"));
        Check.due(31, "another in its place", 1, () -> Check.name(x, "abcdefgh"));
        x.undo();
        Check.refused(31, "another node's", UnsupportedOperationException.class, () -> Check.name(x, "abcdefgh"));
        Check.due(31, "stays typed", 8, () -> x.clear());
        Check.due(31, "the name that is gone", 2, () -> Check.name(x, "a"));
        Check.due(31, "gone to", 7, () -> Check.jump(x, "abcdefgh"));
        Check.due(31, "a noun is a name, too", 2, () -> Check.name(x, "key"));
        Check.refused(31, "gone", NO_SUCH, () -> Check.jump(x, "abcdefgh"));
        Check.due(31, "no word by it", 8, () -> x.clear());
        Check.refused(31, "no word by it", INDEX, () -> x.postings(9));
    }

    private static void jumping() {
        Lorewick x = grown();
        Check.refused(32, "empty", NO_SUCH, () -> x.jump());
        Check.refused(32, "no names", NO_SUCH, () -> Check.jump(x, "home"));
        Check.due(32, "stays typed", 4, () -> x.clear());
        Check.due(32, "play stays", 7, () -> x.node());
        Check.refused(32, "no row of letters", NO_SUCH, () -> Check.jump(x, "a b"));
        x.clear();
        Check.refused(32, "nine letters", NO_SUCH, () -> Check.jump(x, "aaaaaaaaa"));
        x.clear();
        Check.name(x, "home");
        x.undo();
        x.redo(1);
        x.redo(0);
        Check.name(x, "homes");
        Check.due(32, "home", 7, () -> Check.jump(x, "home"));
        Check.due(32, "taken", 0, () -> x.clear());
        Check.due(32, "is there", 7, () -> x.node());
        Check.due(32, "here again", 7, () -> Check.jump(x, "home"));
        Check.due(32, "homes", 5, () -> Check.jump(x, "homes"));
        Check.refused(32, "hom", NO_SUCH, () -> Check.jump(x, "hom"));
    }

    private static void undoingUnlearns() {
        Lorewick x = CommandTest.begun();
        Check.say(x, "look key");
        Check.due(29, "learnt", true, () -> x.isKnown(8));
        x.undo();
        Check.due(29, "unlearnt", false, () -> x.isKnown(8));
        x.redo(0);
        Check.due(30, "learnt again", true, () -> x.isKnown(8));
    }
}
