import static java.lang.Integer.MAX_VALUE;
import static java.lang.Integer.MIN_VALUE;

/** Promises 17 to 22, 48, 49 and 52: what is told of the state where play is. */
public final class StateTest {

    private static final Class<?> INDEX = IndexOutOfBoundsException.class;
    private static final Class<?> STATE = IllegalStateException.class;
    private static final Class<?> UNSUPPORTED = UnsupportedOperationException.class;
    private static final Class<?> NO_SUCH = java.util.NoSuchElementException.class;

    public static void main(String[] args) {
        at();
        place();
        isOpen();
        lit();
        isBright();
        weight();
        score();
        steps();
        stepsOfLongWay();
        checksum();
        Check.end();
    }

    private static void at() {
        Lorewick x = CommandTest.house();
        Check.refused(17, "not begun", STATE, () -> x.at());
        x.begin(2);
        Check.due(17, "at first", 2, () -> x.at());
        Check.say(x, "go w");
        Check.due(17, "gone", 0, () -> x.at());
        Check.say(x, "go n");
        Check.due(17, "gone on", 1, () -> x.at());
        x.undo();
        x.undo();
        Check.due(17, "undone", 2, () -> x.at());
    }

    private static void place() {
        Lorewick x = CommandTest.house();
        Check.refused(18, "not begun", STATE, () -> x.place(0));
        Check.refused(18, "not begun, no thing", INDEX, () -> x.place(6));
        x.begin(0);
        for (int bad : new int[] {-1, 6, MAX_VALUE, MIN_VALUE}) {
            Check.refused(18, "thing " + bad, INDEX, () -> x.place(bad));
        }
        Check.due(18, "lies", 1, () -> x.place(4));
        Check.sayAll(x, "take key,open case");
        Check.due(18, "carried", 100, () -> x.place(2));
        Check.say(x, "put key in case");
        Check.due(18, "in the box 5", 205, () -> x.place(2));
        Check.due(18, "the box", 0, () -> x.place(5));
        x.undo();
        Check.due(18, "undone", 100, () -> x.place(2));
        Lorewick y = new Lorewick();
        Check.word(y, "a");
        Check.word(y, "b");
        y.room(false);
        y.thing(0, 0, 1, 'b');
        y.thing(1, 0, 1, 'p');
        y.begin(0);
        Check.sayAll(y, "open a,take b,put b in a");
        Check.due(18, "in the box 0", 200, () -> y.place(1));
    }

    private static void isOpen() {
        Lorewick x = CommandTest.house();
        Check.refused(19, "not begun", STATE, () -> x.isOpen(1));
        Check.refused(19, "not begun, no box", STATE, () -> x.isOpen(0));
        Check.refused(19, "not begun, no thing", INDEX, () -> x.isOpen(-1));
        x.begin(0);
        for (int bad : new int[] {-1, 6, MAX_VALUE, MIN_VALUE}) {
            Check.refused(19, "thing " + bad, INDEX, () -> x.isOpen(bad));
        }
        Check.refused(19, "a lamp", UNSUPPORTED, () -> x.isOpen(0));
        Check.refused(19, "a plain thing", UNSUPPORTED, () -> x.isOpen(2));
        Check.due(19, "at first", false, () -> x.isOpen(1));
        Check.say(x, "open box");
        Check.due(19, "opened", true, () -> x.isOpen(1));
        Check.due(19, "another", false, () -> x.isOpen(5));
        x.undo();
        Check.due(19, "undone", false, () -> x.isOpen(1));
    }

    private static void lit() {
        Lorewick x = CommandTest.house();
        Check.refused(20, "not begun", STATE, () -> x.lit(0));
        Check.refused(20, "not begun, no lamp", STATE, () -> x.lit(1));
        Check.refused(20, "not begun, no thing", INDEX, () -> x.lit(6));
        x.begin(0);
        for (int bad : new int[] {-1, 6, MAX_VALUE, MIN_VALUE}) {
            Check.refused(20, "thing " + bad, INDEX, () -> x.lit(bad));
        }
        Check.refused(20, "a box", UNSUPPORTED, () -> x.lit(1));
        Check.refused(20, "a plain thing", UNSUPPORTED, () -> x.lit(2));
        Check.due(20, "not lit", -11, () -> x.lit(0));
        Check.say(x, "light lamp");
        for (int i = 9; i >= 1; i--) {
            Check.due(20, "lit", i, () -> x.lit(0));
            Check.say(x, "wait");
        }
        Check.due(20, "burnt out", -1, () -> x.lit(0));
        x.undo();
        Check.due(20, "undone", 1, () -> x.lit(0));
        Check.say(x, "douse lamp");
        Check.due(20, "not lit, with 1 turn", -2, () -> x.lit(0));
    }

    private static void isBright() {
        Lorewick x = CommandTest.house();
        Check.refused(21, "not begun", STATE, () -> x.isBright());
        x.begin(0);
        Check.due(21, "a lit room", true, () -> x.isBright());
        Check.sayAll(x, "open box,take lamp,go n");
        Check.due(21, "a dark room, a lamp not lit", false, () -> x.isBright());
        Check.say(x, "light lamp");
        Check.due(21, "a lit lamp carried", true, () -> x.isBright());
        Check.say(x, "drop lamp");
        Check.due(21, "a lit lamp lies there", true, () -> x.isBright());
        Check.say(x, "go s");
        Check.due(21, "a lit room without lamp", true, () -> x.isBright());
        Check.sayAll(x, "take box,go n");
        Check.due(21, "lies there still", true, () -> x.isBright());
        Check.sayAll(x, "take lamp,put lamp in box");
        Check.due(21, "in an open box that is carried", true, () -> x.isBright());
        Check.say(x, "drop box");
        Check.due(21, "in an open box that lies there", true, () -> x.isBright());
        Check.due(21, "with two turns left", 2, () -> x.lit(0));
        Lorewick y = CommandTest.house();
        y.fuel(0, 99);
        y.begin(0);
        Check.sayAll(y, "light lamp,go n");
        Check.due(21, "a lit lamp elsewhere", false, () -> y.isBright());
        Check.sayAll(y, "go s,open box,take lamp,put lamp in box,take box,go n");
        Check.due(21, "an open box is carried", true, () -> y.isBright());
        Check.say(y, "close box");
        Check.due(21, "a closed one", false, () -> y.isBright());
        Check.sayAll(y, "open box,drop box,go s,go n");
        Check.due(21, "an open one lies there", true, () -> y.isBright());
        Check.say(y, "go s");
        Check.due(21, "a lit room", true, () -> y.isBright());
    }

    private static void weight() {
        Lorewick x = CommandTest.house();
        Check.refused(22, "not begun", STATE, () -> x.weight());
        x.begin(0);
        Check.due(22, "nothing", 0, () -> x.weight());
        Check.sayAll(x, "take lamp,take key");
        Check.due(22, "two things", 3, () -> x.weight());
        Check.sayAll(x, "open box,put key in box");
        Check.due(22, "in a box that is not carried", 2, () -> x.weight());
        Check.say(x, "take box");
        Check.due(22, "in one that is", 6, () -> x.weight());
        Check.say(x, "close box");
        Check.due(22, "also a closed one", 6, () -> x.weight());
        Check.say(x, "drop box");
        Check.due(22, "dropped", 2, () -> x.weight());
    }

    private static void score() {
        Lorewick x = CommandTest.house();
        x.goal(2, 1);
        x.goal(2, 0);
        x.goal(0, 1);
        x.goal(1, 0);
        x.goal(1, 0);
        Check.refused(48, "not begun", STATE, () -> x.score());
        x.begin(0);
        Check.due(48, "at first", 3, () -> x.score());
        Check.sayAll(x, "take key,take lamp");
        Check.due(48, "carried", 2, () -> x.score());
        Check.sayAll(x, "go n,drop key,drop lamp");
        Check.due(48, "in their rooms", 4, () -> x.score());
        Lorewick y = CommandTest.house();
        y.goal(2, 0);
        y.begin(0);
        Check.sayAll(y, "open box,take key,put key in box");
        Check.due(48, "in a box", 0, () -> y.score());
        Check.due(48, "no goals", 0, () -> CommandTest.begun().score());
    }

    private static void steps() {
        Lorewick x = CommandTest.house();
        Check.refused(49, "not begun", STATE, () -> x.steps(0));
        Check.refused(49, "not begun, no room", INDEX, () -> x.steps(3));
        x.begin(0);
        for (int bad : new int[] {-1, 3, MAX_VALUE, MIN_VALUE}) {
            Check.refused(49, "room " + bad, INDEX, () -> x.steps(bad));
        }
        Check.due(49, "here", 0, () -> x.steps(0));
        Check.due(49, "next door", 1, () -> x.steps(1));
        Check.refused(49, "locked", NO_SUCH, () -> x.steps(2));
        Check.say(x, "take key");
        Check.due(49, "with the key", 1, () -> x.steps(2));
        Check.sayAll(x, "open box,take box,put key in box");
        Check.refused(49, "the key is in a box", NO_SUCH, () -> x.steps(2));
        Check.sayAll(x, "take key,go n");
        Check.due(49, "two exits", 2, () -> x.steps(2));
        x.undo();
        x.undo();
        Check.refused(49, "undone", NO_SUCH, () -> x.steps(2));
    }

    /** A ring of 12 rooms with a one-way short cut. */
    private static void stepsOfLongWay() {
        Lorewick x = new Lorewick();
        for (int i = 0; i < 12; i++) {
            x.room(i % 2 == 1);
        }
        for (int i = 0; i < 11; i++) {
            x.exit(i, i % 2 == 0 ? 'n' : 'u', i + 1);
        }
        x.begin(0);
        for (int i = 0; i < 12; i++) {
            int room = i;
            Check.due(49, "the long way", room, () -> x.steps(room));
        }
        Check.say(x, "go n");
        Check.refused(49, "no way back", NO_SUCH, () -> x.steps(0));
        Check.due(49, "fewer then", 10, () -> x.steps(11));
        Lorewick y = new Lorewick();
        for (int i = 0; i < 12; i++) {
            y.room(false);
        }
        for (int i = 11; i > 0; i--) {
            y.exit(i, 'w', i - 1);
        }
        y.exit(11, 'd', 5);
        y.exit(5, 'd', 5);
        y.begin(11);
        Check.due(49, "down", 1, () -> y.steps(5));
        Check.due(49, "down and on", 3, () -> y.steps(3));
        Check.due(49, "or round", 5, () -> y.steps(6));
        Check.due(49, "to the end", 6, () -> y.steps(0));
    }

    private static void checksum() {
        Lorewick x = CommandTest.house();
        Check.refused(52, "not begun", STATE, () -> x.checksum());
        x.begin(0);
        Check.due(52, "at first", sum(0, 100000, 0, 0, 1, 1, 0), () -> x.checksum());
        Check.sayAll(x, "light lamp,open box,take key");
        Check.due(52, "lit, open, carried", sum(0, 71000, 1000, 100, 1, 1, 0), () -> x.checksum());
        Check.sayAll(x, "put key in box,open case,close box");
        Check.due(52, "in a box", sum(0, 41000, 0, 201, 1, 1, 1000), () -> x.checksum());
        Check.sayAll(x, "douse lamp,take lamp,go n");
        Check.due(52, "doused, elsewhere", sum(1, 40100, 0, 201, 1, 1, 1000), () -> x.checksum());
        Lorewick y = new Lorewick();
        y.room(false);
        y.room(false);
        y.begin(1);
        Check.due(52, "no things", 218L, () -> y.checksum());
        wrapping();
    }

    private static long sum(int room, int... rows) {
        long sum = 7 * 31 + room;
        for (int row : rows) {
            sum = sum * 31 + row;
        }
        return sum;
    }

    /** With 12 things the sum is beyond a long's range. */
    private static void wrapping() {
        Lorewick x = new Lorewick();
        x.room(false);
        int[] rows = new int[12];
        for (int i = 0; i < 12; i++) {
            Check.word(x, "w" + (char) ('a' + i));
            x.thing(i, 0, 1, 'l');
            x.fuel(i, 99);
            rows[i] = 990000;
        }
        x.begin(0);
        Check.due(52, "twelve lamps", sum(0, rows), () -> x.checksum());
    }
}
