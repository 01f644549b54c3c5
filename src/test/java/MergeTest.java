import static java.lang.Integer.MAX_VALUE;
import static java.lang.Integer.MIN_VALUE;

/** Promise 47: merging. */
public final class MergeTest {

    private static final Class<?> INDEX = IndexOutOfBoundsException.class;
    private static final Class<?> STATE = IllegalStateException.class;
    private static final Class<?> UNSUPPORTED = UnsupportedOperationException.class;

    public static void main(String[] args) {
        ordinary();
        heavy();
        onlyWhatLiesHere();
        boxes();
        inTheDark();
        burning();
        fullTree();
        fullTreeNoneInReach();
        Check.end();
    }

    private static void due(String what, Object want, Check.Call call) {
        Check.due(47, what, want, call);
    }

    private static void refused(String what, Class<?> want, Check.Call call) {
        Check.refused(47, what, want, call);
    }

    private static void ordinary() {
        Lorewick x = CommandTest.house();
        refused("not begun", INDEX, () -> x.merge(0));
        x.begin(0);
        for (int bad : new int[] {-1, 1, MAX_VALUE, MIN_VALUE}) {
            refused("node " + bad, INDEX, () -> x.merge(bad));
        }
        refused("with this node", UNSUPPORTED, () -> x.merge(0));
        due("ahead", "ooo", () -> Check.sayAll(x, "take key,take lamp,look"));
        Check.jump(atRoot(x), "root");
        Check.say(x, "wait");
        due("two things", 2, () -> x.merge(3));
        due("a new node", 5, () -> x.node());
        due("behind this one", 4, () -> x.parent(5));
        due("the key", 100, () -> x.place(2));
        due("the lamp", 100, () -> x.place(0));
        refused("none are left", UNSUPPORTED, () -> x.merge(3));
        refused("refusals change nothing", INDEX, () -> x.merge(6));
        x.undo();
        due("the same command", 2, () -> x.merge(3));
        due("leads to the same node", 5, () -> x.node());
        x.undo();
        due("with another node", 2, () -> x.merge(2));
        due("is another command", 6, () -> x.node());
        x.undo();
        due("one thing", 1, () -> x.merge(1));
        due("is another", 7, () -> x.node());
        due("the rest of it", 1, () -> x.merge(3));
        due("sound", true, () -> x.isSound());
    }

    private static Lorewick atRoot(Lorewick x) {
        for (int i = x.depth(x.node()); i > 0; i--) {
            x.undo();
        }
        Check.name(x, "root");
        return x;
    }

    /** Things are taken by rising numbers, each that can be, also behind one that cannot. */
    private static void heavy() {
        Lorewick x = new Lorewick();
        int[] weights = {5, 6, 4, 2, 1};
        x.room(false);
        for (int i = 0; i < 5; i++) {
            Check.word(x, "w" + (char) ('a' + i));
            x.thing(i, 0, weights[i], 'p');
        }
        x.begin(0);
        Check.sayAll(x, "take wb,take wc,take wd");
        atRoot(x);
        Check.say(x, "take wa");
        due("6 of 7 is too much by none, 4 and 2 are", 1, () -> x.merge(3));
        due("5 and 6", 11, () -> x.weight());
        x.undo();
        Check.say(x, "take we");
        due("5, 1, and 6", 1, () -> x.merge(3));
        due("the 6", 100, () -> x.place(1));
        due("not the 4", 0, () -> x.place(2));
        x.undo();
        Check.say(x, "take wd");
        due("8 and 4, not 6", 1, () -> x.merge(3));
        due("the 4", 100, () -> x.place(2));
        due("not the 6", 0, () -> x.place(1));
        due("12", 12, () -> x.weight());
        refused("no more can", UNSUPPORTED, () -> x.merge(3));
    }

    private static void onlyWhatLiesHere() {
        Lorewick x = CommandTest.begun();
        Check.sayAll(x, "take key,go e,take lamp");
        atRoot(x);
        Check.sayAll(x, "take key,go e,drop key");
        int elsewhere = x.node();
        Check.say(x, "go w");
        refused("the key lies elsewhere", UNSUPPORTED, () -> x.merge(1));
        atRoot(x);
        refused("it lies there, too", UNSUPPORTED, () -> x.merge(elsewhere));
        Check.say(x, "take lamp");
        due("the key alone", 1, () -> x.merge(1));
    }

    private static void boxes() {
        Lorewick x = CommandTest.begun();
        due("ahead", "oooo", () -> Check.sayAll(x, "open box,take key,put key in box,take box"));
        int inBox = x.node();
        atRoot(x);
        due("the box, not the key in it", 1, () -> x.merge(inBox));
        due("the key lies still", 0, () -> x.place(2));
        due("3", 3, () -> x.weight());
        atRoot(x);
        due("ahead", "ooooo", () -> Check.sayAll(x, "open box,take lamp,put lamp in box,close box,wait"));
        due("the box", 1, () -> x.merge(inBox));
        due("with what is in it here", 5, () -> x.weight());
        due("closed", false, () -> x.isOpen(1));
        due("in it", 201, () -> x.place(0));
        Lorewick y = CommandTest.begun();
        due("ahead", "o", () -> Check.sayAll(y, "take key"));
        atRoot(y);
        due("ahead", "ooo", () -> Check.sayAll(y, "open box,take key,put key in box"));
        refused("in a box here", UNSUPPORTED, () -> y.merge(1));
        heavyBox();
    }

    private static void heavyBox() {
        Lorewick x = new Lorewick();
        Check.word(x, "box");
        Check.word(x, "tin");
        x.room(false);
        x.thing(0, 0, 4, 'b');
        x.thing(1, 0, 9, 'p');
        x.begin(0);
        Check.say(x, "take box");
        atRoot(x);
        Check.sayAll(x, "open box,take tin,put tin in box");
        refused("too heavy with what is in it", UNSUPPORTED, () -> x.merge(1));
        Check.say(x, "take tin");
        refused("too heavy with what is carried", UNSUPPORTED, () -> x.merge(1));
        Check.say(x, "drop tin");
        due("not any more", 1, () -> x.merge(1));
    }

    private static void inTheDark() {
        Lorewick x = CommandTest.begun();
        Check.sayAll(x, "take lamp,light lamp,go n,take cup");
        int cup = x.node();
        atRoot(x);
        Check.say(x, "go n");
        refused("dark", UNSUPPORTED, () -> x.merge(cup));
        atRoot(x);
        Check.sayAll(x, "take lamp,go n");
        refused("dark, with a lamp", UNSUPPORTED, () -> x.merge(cup));
        Check.say(x, "light lamp");
        due("bright", 1, () -> x.merge(cup));
        due("the cup", 100, () -> x.place(4));
        Check.say(x, "drop lamp");
        due("a lit lamp, too", 1, () -> x.merge(cup));
        due("carried", 100, () -> x.place(0));
        due("lit", true, () -> x.lit(0) > 0);
    }

    private static void burning() {
        Lorewick x = CommandTest.begun();
        Check.say(x, "take key");
        x.undo();
        Check.say(x, "light lamp");
        x.merge(1);
        due("a turn", 8, () -> x.lit(0));
        x.undo();
        x.merge(1);
        due("the same node", 8, () -> x.lit(0));
        due("fern is shown there", true, () -> x.posting(6, 3) == x.node());
    }

    private static void fullTree() {
        Lorewick x = CommandTest.begun();
        Check.say(x, "take key");
        x.undo();
        Check.name(x, "root");
        x.merge(1);
        x.undo();
        x.hint(1);
        x.teach(0, 8);
        x.buy(0);
        for (int i = 4; i < 80; i++) {
            x.read(0);
        }
        refused("80 nodes, the key can be taken", STATE, () -> x.merge(1));
        refused("80 nodes, none carried there", UNSUPPORTED, () -> x.merge(0));
        refused("80 nodes, no node", INDEX, () -> x.merge(80));
        due("play stays", 79, () -> x.node());
        due("what is typed and cannot be done needs no node, too", "n", () -> Check.sayAll(x, "drop key"));
        Check.jump(x, "root");
        due("no further node is needed", 1, () -> x.merge(1));
        due("is there", 2, () -> x.node());
        refused("the key is carried here, too", UNSUPPORTED, () -> x.merge(1));
        x.undo();
        refused("another node, and the key can be taken", STATE, () -> x.merge(2));
        due("play stays at 0", 0, () -> x.node());
        due("the key lies still", 0, () -> x.place(2));
        refused("none can be taken with this one", UNSUPPORTED, () -> x.merge(0));
        due("still 80", 80, () -> x.nodes());
    }

    /** What is too heavy, elsewhere or not seen cannot be taken, so that no node is needed for it. */
    private static void fullTreeNoneInReach() {
        Lorewick x = CommandTest.begun();
        Check.sayAll(x, "take key");
        atRoot(x);
        Check.sayAll(x, "take lamp,light lamp,go n,take cup");
        int cup = x.node();
        atRoot(x);
        Check.say(x, "go n");
        Check.name(x, "dark");
        fill(x, 8);
        refused("80 nodes, elsewhere", UNSUPPORTED, () -> x.merge(1));
        Check.jump(x, "dark");
        refused("80 nodes, dark", UNSUPPORTED, () -> x.merge(cup));
        Check.jump(x, "root");
        refused("80 nodes, the lamp", STATE, () -> x.merge(cup));
        fullTreeTooHeavy();
    }

    private static void fullTreeTooHeavy() {
        Lorewick x = new Lorewick();
        Check.word(x, "tin");
        Check.word(x, "gem");
        Check.word(x, "fern");
        x.room(false);
        x.thing(0, 0, 9, 'p');
        x.thing(1, 0, 4, 'p');
        x.begin(0);
        Check.sayAll(x, "take tin");
        atRoot(x);
        Check.sayAll(x, "take gem");
        Check.name(x, "gem");
        fill(x, 2);
        refused("80 nodes, too heavy", UNSUPPORTED, () -> x.merge(1));
        Check.jump(x, "root");
        refused("80 nodes, not too heavy", STATE, () -> x.merge(1));
    }

    /** Fills the tree by buying and reading a hint of a word that is not known. */
    private static void fill(Lorewick x, int word) {
        int hint = x.hint(1);
        x.teach(hint, word);
        x.buy(hint);
        for (int i = x.nodes(); i < 80; i++) {
            x.read(hint);
        }
        due("80 nodes", 80, () -> x.nodes());
    }
}
