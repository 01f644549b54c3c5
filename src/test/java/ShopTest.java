import static java.lang.Integer.MAX_VALUE;
import static java.lang.Integer.MIN_VALUE;

/** Promises 39 to 46 and 54: hints, their prices, sales and coins. */
public final class ShopTest {

    private static final Class<?> INDEX = IndexOutOfBoundsException.class;
    private static final Class<?> ARGUMENT = IllegalArgumentException.class;
    private static final Class<?> STATE = IllegalStateException.class;
    private static final Class<?> UNSUPPORTED = UnsupportedOperationException.class;
    private static final Class<?> NO_SUCH = java.util.NoSuchElementException.class;
    private static final int[] NO_HINTS = {-1, 4, MAX_VALUE, MIN_VALUE};

    public static void main(String[] args) {
        notBegun();
        price();
        pricesOfShares();
        buy();
        stateStays();
        buyingRefused();
        buyingBurns();
        owned();
        read();
        readingInAFullTree();
        coins();
        sales();
        meanPrice();
        Check.end();
    }

    /** The house with the hints 0: cup, moss; 1: lamp, gem, rune; 2: none; 3: key. */
    private static Lorewick shop() {
        Lorewick x = CommandTest.house();
        x.hint(10);
        x.teach(0, 4);
        x.teach(0, 7);
        x.hint(7);
        x.teach(1, 0);
        x.teach(1, 3);
        x.teach(1, 8);
        x.hint(50);
        x.hint(1);
        x.teach(3, 2);
        return x;
    }

    private static Lorewick begun() {
        Lorewick x = shop();
        x.begin(0);
        return x;
    }

    private static void notBegun() {
        Lorewick x = shop();
        Check.refused(39, "not begun", STATE, () -> x.price(0));
        Check.refused(40, "not begun", STATE, () -> x.buy(0));
        Check.refused(41, "not begun", STATE, () -> x.isOwned(0));
        Check.refused(42, "not begun", STATE, () -> x.read(0));
        for (int bad : NO_HINTS) {
            Check.refused(39, "not begun, hint " + bad, INDEX, () -> x.price(bad));
            Check.refused(40, "not begun, hint " + bad, INDEX, () -> x.buy(bad));
            Check.refused(41, "not begun, hint " + bad, INDEX, () -> x.isOwned(bad));
            Check.refused(42, "not begun, hint " + bad, INDEX, () -> x.read(bad));
        }
        x.begin(0);
        for (int bad : NO_HINTS) {
            Check.refused(39, "hint " + bad, INDEX, () -> x.price(bad));
            Check.refused(40, "hint " + bad, INDEX, () -> x.buy(bad));
            Check.refused(41, "hint " + bad, INDEX, () -> x.isOwned(bad));
            Check.refused(42, "hint " + bad, INDEX, () -> x.read(bad));
        }
    }

    private static void price() {
        Lorewick x = begun();
        Check.due(39, "two not known, none shown", 40, () -> x.price(0));
        Check.due(39, "two not known, one shown", 14, () -> x.price(1));
        Check.due(39, "without words", 0, () -> x.price(2));
        Check.due(39, "all known", 0, () -> x.price(3));
        Check.sayAll(x, "take lamp,light lamp,go n");
        Check.due(39, "all known now", 0, () -> x.price(0));
        Check.due(39, "rune alone, shown by all nodes", 7, () -> x.price(1));
        x.undo();
        Check.due(39, "not known here, shown by 1 of 4", 35, () -> x.price(0));
        Check.say(x, "wait");
        Check.due(39, "shown by 1 of 5", 36, () -> x.price(0));
        Check.due(39, "known are no more than at first", 14, () -> x.price(1));
        x.teach(0, 8);
        Check.due(39, "a third word", 54, () -> x.price(0));
        x.buy(0);
        Check.refused(39, "owned", UNSUPPORTED, () -> x.price(0));
        x.undo();
        Check.refused(39, "owned behind this node", UNSUPPORTED, () -> x.price(0));
        x.undo();
        Check.say(x, "look");
        Check.due(39, "not owned here; shown by 2 of 7", (int) (30f * (2f - 2f / 7f)), () -> x.price(0));
    }

    /** Prices at the node 0 of trees with several shares of nodes that have shown a word of the hint. */
    private static void pricesOfShares() {
        for (int shown = 1; shown < 70; shown += 3) {
            for (int others = 1; others < 10; others++) {
                int base = 1 + (shown * 7 + others * 11) % 50;
                Lorewick x = treeWithShown(base, shown, others);
                float share = (float) shown / (float) (shown + others);
                int want = (int) ((float) (base * 2) * (2.0f - share));
                Check.due(39, "base " + base + ", " + shown + " shown, " + others + " not", want, () -> x.price(0));
            }
        }
    }

    private static Lorewick treeWithShown(int base, int shown, int others) {
        Lorewick x = CommandTest.house();
        x.hint(base);
        x.teach(0, 8);
        x.teach(0, 7);
        x.hint(1);
        x.teach(1, 8);
        x.begin(0);
        Check.name(x, "root");
        x.buy(1);
        for (int i = 1; i < shown; i++) {
            x.read(1);
        }
        Check.jump(x, "root");
        for (int i = 1; i < others; i++) {
            Check.say(x, "wait");
        }
        return x;
    }

    private static void buy() {
        Lorewick x = begun();
        long before = x.checksum();
        Check.due(40, "the new node", 1, () -> x.buy(0));
        Check.due(40, "play is there", 1, () -> x.node());
        Check.due(40, "a child", 0, () -> x.parent(1));
        Check.due(40, "paid", 60, () -> x.coins());
        Check.due(40, "its words are known", true, () -> x.isKnown(4) && x.isKnown(7));
        Check.due(40, "shown there", 1, () -> x.posting(7, 0));
        Check.due(40, "with all that is shown anyway", 2, () -> x.postings(6));
        Check.due(40, "the state stays", before, () -> x.checksum());
        Check.due(40, "another hint at the next node", 2, () -> x.buy(1));
        Check.due(40, "paid for, 2 of 3 words not known, 2 of 2 nodes", 46, () -> x.coins());
        Check.due(40, "all its words are shown", 3, () -> x.postings(0));
        x.undo();
        x.undo();
        Check.due(40, "undoing gives nothing back", 46, () -> x.coins());
        Check.due(40, "but unlearns", false, () -> x.isKnown(7));
        Check.say(x, "wait");
        Check.due(40, "sold again on another branch", 4, () -> x.buy(0));
        Check.due(40, "1 of 4 nodes has shown one", 11, () -> x.coins());
    }

    /** What is bought or read keeps the state where play is, whatever was tried last. */
    private static void stateStays() {
        Lorewick x = begun();
        long atFirst = x.checksum();
        Check.sayAll(x, "take lamp,open box");
        x.undo();
        x.undo();
        x.buy(0);
        Check.due(40, "behind undoing", atFirst, () -> x.checksum());
        Check.say(x, "take key");
        long withKey = x.checksum();
        Check.say(x, "go n");
        x.undo();
        x.read(0);
        Check.due(42, "behind undoing", withKey, () -> x.checksum());
        Check.due(42, "is sound", true, () -> x.isSound());
    }

    private static void buyingRefused() {
        Lorewick x = begun();
        Check.refused(40, "without words", UNSUPPORTED, () -> x.buy(2));
        Check.refused(40, "all known", UNSUPPORTED, () -> x.buy(3));
        x.teach(2, 8);
        Check.due(40, "just so many coins", 1, () -> x.buy(2));
        Check.due(40, "none left", 0, () -> x.coins());
        Check.refused(40, "owned", UNSUPPORTED, () -> x.buy(2));
        Check.refused(40, "no coins", NO_SUCH, () -> x.buy(0));
        Check.due(40, "refusals change nothing", 2, () -> x.nodes());
        Check.due(40, "and pay nothing", 0, () -> x.coins());
        x.undo();
        Check.refused(40, "owned behind this node", UNSUPPORTED, () -> x.buy(2));
        x.earn(39);
        Check.refused(40, "one coin too few", NO_SUCH, () -> x.buy(0));
        x.earn(1);
        Check.due(40, "enough", 2, () -> x.buy(0));
        for (int i = 3; i < 80; i++) {
            x.read(0);
        }
        Check.refused(40, "80 nodes", STATE, () -> x.buy(1));
        Check.refused(40, "80 nodes, owned", STATE, () -> x.buy(0));
        Check.refused(40, "80 nodes, all known", STATE, () -> x.buy(3));
        Check.refused(40, "80 nodes, no hint", INDEX, () -> x.buy(4));
    }

    private static void buyingBurns() {
        Lorewick x = begun();
        Check.say(x, "light lamp");
        x.buy(0);
        Check.due(40, "a turn", 8, () -> x.lit(0));
        x.read(0);
        Check.due(42, "a turn", 7, () -> x.lit(0));
        Lorewick y = shop();
        y.fuel(0, 5);
        y.begin(0);
        Check.sayAll(y, "take lamp,light lamp,go n");
        Check.say(y, "wait");
        int moss = y.postings(7);
        y.teach(3, 8);
        Check.due(40, "still lit", 2, () -> y.lit(0));
        y.buy(3);
        Check.due(40, "still bright", moss + 1, () -> y.postings(7));
        y.read(3);
        Check.due(42, "burnt out", -1, () -> y.lit(0));
        Check.due(42, "dark behind it", moss + 1, () -> y.postings(7));
        Check.due(42, "but its words are shown", y.node(), () -> y.posting(8, 1));
    }

    private static void owned() {
        Lorewick x = begun();
        Check.due(41, "at first", false, () -> x.isOwned(0));
        Check.sayAll(x, "wait,wait");
        x.buy(0);
        Check.due(41, "at the sale", true, () -> x.isOwned(0));
        Check.due(41, "not another", false, () -> x.isOwned(1));
        Check.say(x, "look");
        Check.due(41, "behind the sale", true, () -> x.isOwned(0));
        x.undo();
        x.undo();
        Check.due(41, "ahead of the sale", true, () -> x.isOwned(0));
        Check.say(x, "look");
        Check.due(41, "on another branch", false, () -> x.isOwned(0));
        x.undo();
        x.undo();
        x.undo();
        Check.due(41, "at the node 0", true, () -> x.isOwned(0));
        Check.say(x, "look");
        Check.due(41, "on another branch from it", false, () -> x.isOwned(0));
    }

    private static void read() {
        Lorewick x = begun();
        Check.refused(42, "not owned", UNSUPPORTED, () -> x.read(0));
        x.buy(0);
        x.undo();
        Check.due(42, "sold behind this node", 2, () -> x.read(0));
        Check.due(42, "play is there", 2, () -> x.node());
        Check.due(42, "its words are known", true, () -> x.isKnown(4) && x.isKnown(7));
        Check.due(42, "no coins", 60, () -> x.coins());
        Check.due(42, "no sale", 1, () -> x.sales());
        Check.due(42, "not owned at the child, by no sale of its path", false, () -> x.isOwned(0));
        Check.refused(42, "so not read there", UNSUPPORTED, () -> x.read(0));
        x.undo();
        Check.due(42, "the same command", 2, () -> x.read(0));
        Check.due(42, "three nodes", 3, () -> x.nodes());
        x.undo();
        x.redo(0);
        Check.due(42, "read at the sale", 3, () -> x.read(0));
        Check.due(42, "and again", 4, () -> x.read(0));
        x.buy(1);
        Check.due(42, "another hint", 6, () -> x.read(1));
        x.undo();
        Check.due(42, "is another command", 7, () -> x.read(0));
    }

    private static void readingInAFullTree() {
        Lorewick x = begun();
        x.buy(0);
        for (int i = 2; i < 80; i++) {
            Check.due(42, "node", i, () -> x.read(0));
        }
        Check.refused(42, "80 nodes", STATE, () -> x.read(0));
        Check.refused(42, "80 nodes, not owned", STATE, () -> x.read(1));
        Check.refused(42, "80 nodes, no hint", INDEX, () -> x.read(4));
        Check.due(42, "nothing changed", 79, () -> x.node());
        x.undo();
        Check.due(42, "no further node is needed", 79, () -> x.read(0));
    }

    private static void coins() {
        Lorewick x = new Lorewick();
        Check.due(43, "at first", 100, () -> x.coins());
        for (int bad : new int[] {0, 100, -1, MAX_VALUE, MIN_VALUE}) {
            Check.refused(44, "coins " + bad, ARGUMENT, () -> x.earn(bad));
        }
        Check.due(44, "1", 101, () -> x.earn(1));
        Check.due(44, "99", 200, () -> x.earn(99));
        Check.due(43, "earned", 200, () -> x.coins());
        Lorewick y = begun();
        Check.due(44, "in play", 150, () -> y.earn(50));
        y.buy(0);
        Check.due(43, "paid", 110, () -> y.coins());
    }

    private static void sales() {
        Lorewick x = begun();
        Check.due(45, "none", 0, () -> x.sales());
        Check.refused(46, "none", INDEX, () -> x.sale(0, 'h'));
        Check.say(x, "wait");
        x.buy(1);
        x.buy(0);
        Check.due(45, "two", 2, () -> x.sales());
        x.undo();
        x.undo();
        x.undo();
        Check.due(45, "undoing takes none", 2, () -> x.sales());
        Check.say(x, "look");
        x.buy(1);
        Check.due(45, "three", 3, () -> x.sales());
        int[] hints = {1, 0, 1};
        int[] nodes = {2, 3, 5};
        int[] coins = {14, 40, 14};
        for (int i = 0; i < 3; i++) {
            int index = i;
            Check.due(46, "hint " + i, hints[i], () -> x.sale(index, 'h'));
            Check.due(46, "node " + i, nodes[i], () -> x.sale(index, 'n'));
            Check.due(46, "coins " + i, coins[i], () -> x.sale(index, 'c'));
            for (char bad : new char[] {'x', 'H', ' ', (char) 0, (char) 360}) {
                Check.refused(46, "thing " + (int) bad, ARGUMENT, () -> x.sale(index, bad));
            }
        }
        for (int bad : new int[] {-1, 3, MAX_VALUE, MIN_VALUE}) {
            Check.refused(46, "index " + bad, INDEX, () -> x.sale(bad, 'h'));
            Check.refused(46, "index " + bad + ", no thing", INDEX, () -> x.sale(bad, 'x'));
        }
    }

    private static void meanPrice() {
        Lorewick x = begun();
        Check.refused(54, "none sold", NO_SUCH, () -> x.meanPrice());
        Check.refused(54, "not begun", NO_SUCH, () -> new Lorewick().meanPrice());
        x.buy(0);
        Check.due(54, "one", 40.0, () -> x.meanPrice());
        x.buy(1);
        Check.due(54, "two", 27.0, () -> x.meanPrice());
        x.undo();
        x.undo();
        Check.say(x, "wait");
        x.earn(50);
        x.buy(0);
        Check.due(54, "three", (40 + 14 + x.sale(2, 'c')) / 3.0, () -> x.meanPrice());
    }
}
