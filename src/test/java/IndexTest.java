import static java.lang.Integer.MAX_VALUE;
import static java.lang.Integer.MIN_VALUE;

/** Promises 33 to 38 and 53: which words are known, and where they were shown. */
public final class IndexTest {

    private static final Class<?> INDEX = IndexOutOfBoundsException.class;
    private static final Class<?> STATE = IllegalStateException.class;
    private static final Class<?> NO_SUCH = java.util.NoSuchElementException.class;
    private static final int[] NO_WORDS = {-1, 9, 40, 64, MAX_VALUE, MIN_VALUE};

    public static void main(String[] args) {
        notBegun();
        shownAtFirst();
        dark();
        known();
        learnt();
        postings();
        rarity();
        rarityOfEqual();
        knownShare();
        Check.end();
    }

    private static void notBegun() {
        Lorewick x = CommandTest.house();
        Check.refused(33, "not begun", STATE, () -> x.isKnown(0));
        Check.refused(34, "not begun", STATE, () -> x.known());
        Check.refused(35, "not begun", STATE, () -> x.learnt(0));
        Check.due(36, "not begun", 0, () -> x.postings(0));
        Check.refused(37, "not begun", NO_SUCH, () -> x.posting(0, 0));
        Check.refused(38, "not begun", STATE, () -> x.rare(0));
        Check.refused(53, "not begun", STATE, () -> x.knownShare());
        Check.refused(53, "not begun, no words", STATE, () -> new Lorewick().knownShare());
        for (int bad : NO_WORDS) {
            Check.refused(33, "not begun, word " + bad, INDEX, () -> x.isKnown(bad));
            Check.refused(35, "not begun, word " + bad, INDEX, () -> x.learnt(bad));
            Check.refused(36, "not begun, word " + bad, INDEX, () -> x.postings(bad));
            Check.refused(37, "not begun, word " + bad, INDEX, () -> x.posting(bad, 0));
        }
        x.begin(0);
        for (int bad : NO_WORDS) {
            Check.refused(33, "word " + bad, INDEX, () -> x.isKnown(bad));
            Check.refused(35, "word " + bad, INDEX, () -> x.learnt(bad));
            Check.refused(36, "word " + bad, INDEX, () -> x.postings(bad));
            Check.refused(37, "word " + bad, INDEX, () -> x.posting(bad, -1));
        }
    }

    /** The words of the room and the nouns of what lies there. */
    private static void shownAtFirst() {
        Lorewick x = CommandTest.begun();
        boolean[] want = {true, true, true, false, false, true, true, false, false};
        for (int i = 0; i < 9; i++) {
            int word = i;
            Check.due(33, "word " + i, want[i], () -> x.isKnown(word));
        }
        Check.due(34, "at first", 5, () -> x.known());
    }

    /** In the dark, the nouns of what is carried, or in open boxes that are. */
    private static void dark() {
        Lorewick x = CommandTest.begun();
        Check.sayAll(x, "take lamp,open box,take key,put key in box,take box,go n");
        int node = x.node();
        Check.due(36, "lamp, carried", node + 1, () -> x.postings(0));
        Check.due(36, "box, carried", node + 1, () -> x.postings(1));
        Check.due(36, "key, in an open box", node + 1, () -> x.postings(2));
        Check.due(36, "case, elsewhere", node, () -> x.postings(5));
        Check.due(36, "cup, not carried", 0, () -> x.postings(4));
        Check.due(36, "moss, the room's word", 0, () -> x.postings(7));
        Check.say(x, "close box");
        Check.due(36, "key, in a closed box", node + 1, () -> x.postings(2));
        Check.due(36, "box, closed", node + 2, () -> x.postings(1));
        Check.sayAll(x, "open box,drop box");
        Check.due(36, "key, in an open box that lies in the dark", node + 2, () -> x.postings(2));
        Check.due(36, "box, lies in the dark", node + 3, () -> x.postings(1));
        Check.say(x, "light lamp");
        Check.due(36, "key, now it is bright", node + 3, () -> x.postings(2));
        Check.due(36, "cup, now it is bright", 1, () -> x.postings(4));
        Check.due(36, "moss, now it is bright", 1, () -> x.postings(7));
        Check.say(x, "douse lamp");
        Check.due(36, "cup, dark again", 1, () -> x.postings(4));
        Check.due(33, "but known still", true, () -> x.isKnown(4));
        Lorewick y = CommandTest.begun();
        Check.sayAll(y, "open box,take key,put key in box,close box");
        Check.due(36, "key, in a closed box in a lit room", 4, () -> y.postings(2));
    }

    private static void known() {
        Lorewick x = CommandTest.begun();
        Check.sayAll(x, "take lamp,light lamp,go n");
        Check.due(34, "gem, cup and moss, too", 8, () -> x.known());
        Check.sayAll(x, "go s,look key");
        Check.due(34, "all", 9, () -> x.known());
        Check.word(x, "late");
        Check.due(34, "but not a new one", 9, () -> x.known());
        Check.due(33, "which is not known", false, () -> x.isKnown(9));
        x.undo();
        Check.due(34, "undone", 8, () -> x.known());
        x.undo();
        x.undo();
        Check.due(34, "undone again", 5, () -> x.known());
        Check.due(33, "unlearnt", false, () -> x.isKnown(4));
        Check.due(36, "its postings stay", 1, () -> x.postings(4));
        Check.say(x, "look");
        Check.due(33, "not known on another branch", false, () -> x.isKnown(4));
    }

    private static void learnt() {
        Lorewick x = CommandTest.begun();
        Check.sayAll(x, "take lamp,light lamp,go n,go s,go n");
        Check.due(35, "at first", 0, () -> x.learnt(0));
        Check.due(35, "in the dark room", 3, () -> x.learnt(4));
        Check.refused(35, "not known", NO_SUCH, () -> x.learnt(8));
        x.undo();
        Check.due(35, "known still", 3, () -> x.learnt(7));
        x.undo();
        x.undo();
        Check.refused(35, "unlearnt", NO_SUCH, () -> x.learnt(7));
        Check.sayAll(x, "wait,go n");
        Check.due(35, "on this path", 7, () -> x.learnt(7));
        Check.due(36, "on three nodes", 3, () -> x.postings(7));
    }

    private static void postings() {
        Lorewick x = CommandTest.begun();
        Check.sayAll(x, "take lamp,light lamp,go n,wait");
        x.undo();
        x.undo();
        Check.sayAll(x, "go e,wait,go n,drop lamp,go s,wait");
        int[] lamp = {0, 1, 2, 3, 4, 5, 6, 7};
        Check.due(36, "lamp", 8, () -> x.postings(0));
        for (int i = 0; i < 8; i++) {
            int index = i;
            Check.due(37, "lamp " + i, lamp[i], () -> x.posting(0, index));
        }
        int[] moss = {3, 4, 6, 7};
        Check.due(36, "moss", 4, () -> x.postings(7));
        for (int i = 0; i < 4; i++) {
            int index = i;
            Check.due(37, "moss " + i, moss[i], () -> x.posting(7, index));
        }
        for (int bad : new int[] {-1, 4, MAX_VALUE, MIN_VALUE}) {
            Check.refused(37, "moss " + bad, NO_SUCH, () -> x.posting(7, bad));
        }
        Check.due(36, "rune", 0, () -> x.postings(8));
        Check.refused(37, "rune", NO_SUCH, () -> x.posting(8, 0));
        Check.jump(named(x), "root");
        Check.due(36, "of the whole tree", 4, () -> x.postings(7));
    }

    private static Lorewick named(Lorewick x) {
        for (int i = x.depth(x.node()); i > 0; i--) {
            x.undo();
        }
        Check.name(x, "root");
        return x;
    }

    private static void rarity() {
        Lorewick x = CommandTest.begun();
        Check.sayAll(x, "take lamp,light lamp,go n");
        // Postings: lamp 4; box, key, case, fern 3; gem, cup, moss 1.
        checkRare(x, 3, 4, 7, 1, 2, 5, 6, 0);
        Check.sayAll(x, "wait,wait,take cup");
        // Postings: lamp 7; gem, cup, moss 4; box, key, case, fern 3.
        checkRare(x, 1, 2, 5, 6, 3, 4, 7, 0);
        Check.jump(named(x), "root");
        // Known are those of the node 0 alone, but postings are of the whole tree.
        checkRare(x, 1, 2, 5, 6, 0);
        Check.say(x, "look key");
        checkRare(x, 8, 1, 2, 5, 6, 0);
        Lorewick y = CommandTest.house();
        y.begin(1);
        checkRare(y);
    }

    private static void checkRare(Lorewick x, int... want) {
        for (int i = 0; i < want.length; i++) {
            int index = i;
            Check.due(38, "index " + i, want[i], () -> x.rare(index));
        }
        for (int bad : new int[] {-1, want.length, MAX_VALUE, MIN_VALUE}) {
            Check.refused(38, "index " + bad, NO_SUCH, () -> x.rare(bad));
        }
    }

    private static void rarityOfEqual() {
        Lorewick x = new Lorewick();
        x.room(false);
        int[] want = new int[40];
        for (int i = 0; i < 40; i++) {
            Check.word(x, "w" + (char) ('a' + i / 26) + (char) ('a' + i % 26));
            x.show(0, i);
            want[i] = i;
        }
        x.begin(0);
        checkRare(x, want);
    }

    private static void knownShare() {
        Lorewick x = CommandTest.begun();
        Check.due(53, "5 of 9", 5f / 9f, () -> x.knownShare());
        Check.word(x, "late");
        Check.due(53, "5 of 10", 0.5f, () -> x.knownShare());
        Check.say(x, "look key");
        Check.due(53, "6 of 10", 6f / 10f, () -> x.knownShare());
        Lorewick y = new Lorewick();
        y.room(false);
        y.begin(0);
        Check.refused(53, "no words", ArithmeticException.class, () -> y.knownShare());
        Check.word(y, "new");
        Check.due(53, "none of 1", 0f, () -> y.knownShare());
    }
}
