import static java.lang.Integer.MAX_VALUE;
import static java.lang.Integer.MIN_VALUE;

/** Promises 1 to 15: texts, words, the world, hints, and the beginning. */
public final class TellingTest {

    private static final Class<?> INDEX = IndexOutOfBoundsException.class;
    private static final Class<?> ARGUMENT = IllegalArgumentException.class;
    private static final Class<?> STATE = IllegalStateException.class;
    private static final Class<?> UNSUPPORTED = UnsupportedOperationException.class;

    public static void main(String[] args) {
        newObject();
        type();
        clear();
        word();
        room();
        show();
        exit();
        lock();
        thing();
        fuel();
        tell();
        goal();
        hint();
        teach();
        begin();
        Check.end();
    }

    /** A world with words tin, owl, elm, two rooms and a lamp, a box and a stone. */
    private static Lorewick small() {
        Lorewick x = new Lorewick();
        for (String text : "tin,owl,elm,fig".split(",")) {
            Check.word(x, text);
        }
        x.room(false);
        x.room(true);
        x.thing(0, 0, 2, 'l');
        x.thing(1, 0, 3, 'b');
        x.thing(2, 1, 9, 'p');
        return x;
    }

    private static Lorewick begun() {
        Lorewick x = small();
        x.exit(0, 'n', 1);
        x.begin(0);
        return x;
    }

    private static void newObject() {
        Lorewick x = new Lorewick();
        Check.due(1, "no signs", 0, () -> x.clear());
        Check.due(1, "no sales", 0, () -> x.sales());
        Check.due(1, "coins", 100, () -> x.coins());
        Check.refused(1, "no room", INDEX, () -> x.begin(0));
        Check.refused(1, "no word", INDEX, () -> x.postings(0));
        Check.refused(1, "no node", INDEX, () -> x.depth(0));
        Check.due(1, "sound", true, () -> x.isSound());
        Check.due(1, "first room", 0, () -> x.room(false));
        Check.due(1, "a second object has rooms of its own", 0, () -> new Lorewick().room(false));
    }

    private static void type() {
        Lorewick x = new Lorewick();
        for (char sign : new char[] {'A', 'Z', '`', '{', '0', '-', '\n', (char) 0, (char) 31, (char) 33, (char) 65535, (char) 353}) {
            Check.refused(2, "sign " + (int) sign, ARGUMENT, () -> x.type(sign));
        }
        Check.due(2, "a", 1, () -> x.type('a'));
        Check.due(2, "z", 2, () -> x.type('z'));
        Check.due(2, "blank", 3, () -> x.type(' '));
        for (int i = 4; i <= 30; i++) {
            Check.due(2, "sign", i, () -> x.type('m'));
        }
        Check.refused(2, "31st", STATE, () -> x.type('m'));
        Check.refused(2, "31st, no such sign", ARGUMENT, () -> x.type('M'));
        Check.due(2, "refused signs are not typed", 30, () -> x.clear());
        Check.due(2, "after clear", 1, () -> x.type('m'));
    }

    private static void clear() {
        Lorewick x = new Lorewick();
        Check.due(3, "nothing", 0, () -> x.clear());
        Check.type(x, "ab c");
        Check.due(3, "four", 4, () -> x.clear());
        Check.due(3, "again", 0, () -> x.clear());
        Check.type(x, "dog");
        Check.due(3, "old signs are gone", 0, () -> x.word());
        Check.type(x, "dog");
        Check.refused(3, "the word was dog", UNSUPPORTED, () -> x.word());
    }

    private static void word() {
        Lorewick x = new Lorewick();
        Check.refused(4, "empty", ARGUMENT, () -> x.word());
        for (String text : new String[] {"ninelette", " ", "a ", " a", "a b", "aaaaaaaaaaaaaaaaaaaaaaaaaaaaaa", "aaaaaaa "}) {
            Check.type(x, text);
            Check.refused(4, "'" + text + "'", ARGUMENT, () -> x.word());
            Check.due(4, "refused text stays", text.length(), () -> x.clear());
        }
        Check.due(4, "one letter", 0, () -> Check.word(x, "a"));
        Check.due(4, "taken text is gone", 0, () -> x.clear());
        Check.due(4, "eight letters", 1, () -> Check.word(x, "zzzzzzzz"));
        Check.due(4, "two letters", 2, () -> Check.word(x, "aa"));
        Check.refused(4, "such a word", UNSUPPORTED, () -> Check.word(x, "zzzzzzzz"));
        Check.due(4, "refused word stays", 8, () -> x.clear());
        for (int i = 3; i < 40; i++) {
            String text = "w" + (char) ('a' + i / 26) + (char) ('a' + i % 26);
            Check.due(4, text, i, () -> Check.word(x, text));
        }
        Check.refused(4, "41st", STATE, () -> Check.word(x, "new"));
        Check.due(4, "41st stays", 3, () -> x.clear());
        Check.refused(4, "41st, such a word", UNSUPPORTED, () -> Check.word(x, "aa"));
        x.clear();
        Check.refused(4, "41st, no word", ARGUMENT, () -> x.word());
        Lorewick y = begun();
        Check.due(4, "in play", 4, () -> Check.word(y, "late"));
        Check.due(4, "in play, not known", false, () -> y.isKnown(4));
    }

    private static void room() {
        Lorewick x = new Lorewick();
        for (int i = 0; i < 12; i++) {
            boolean isDark = i == 1;
            Check.due(5, "room", i, () -> x.room(isDark));
        }
        Check.refused(5, "13th", STATE, () -> x.room(false));
        Check.refused(5, "no 13th", INDEX, () -> x.begin(12));
        x.exit(0, 'n', 1);
        x.exit(1, 'n', 11);
        x.begin(0);
        Check.due(5, "lit", true, () -> x.isBright());
        Check.say(x, "go n");
        Check.due(5, "dark", false, () -> x.isBright());
        Check.say(x, "go n");
        Check.due(5, "last", 11, () -> x.at());
        Check.refused(5, "play has begun", STATE, () -> begun().room(false));
    }

    private static void show() {
        Lorewick x = small();
        Check.due(6, "first", 1, () -> x.show(0, 3));
        Check.due(6, "again", 1, () -> x.show(0, 3));
        Check.due(6, "second", 2, () -> x.show(0, 0));
        Check.due(6, "other room", 1, () -> x.show(1, 2));
        for (int bad : new int[] {-1, 2, MAX_VALUE, MIN_VALUE}) {
            Check.refused(6, "room " + bad, INDEX, () -> x.show(bad, 0));
        }
        for (int bad : new int[] {-1, 4, 40, 64, MAX_VALUE, MIN_VALUE}) {
            Check.refused(6, "word " + bad, INDEX, () -> x.show(0, bad));
        }
        Check.due(6, "refusals change nothing", 2, () -> x.show(0, 0));
        x.begin(0);
        Check.due(6, "shown in play", true, () -> x.isKnown(3));
        Check.due(6, "not shown in play", false, () -> x.isKnown(2));
        Check.refused(6, "play has begun", STATE, () -> x.show(0, 0));
        Check.refused(6, "no room, and begun", INDEX, () -> x.show(2, 0));
        Check.refused(6, "no word, and begun", INDEX, () -> x.show(0, 4));
        Lorewick y = new Lorewick();
        y.room(false);
        for (int i = 0; i < 40; i++) {
            int word = i;
            Check.word(y, "w" + (char) ('a' + i / 26) + (char) ('a' + i % 26));
            Check.due(6, "word", i + 1, () -> y.show(0, word));
        }
        Check.due(6, "all are known", 40, () -> y.begin(0));
    }

    private static void exit() {
        Lorewick x = small();
        String directions = "neswud";
        for (int i = 0; i < 6; i++) {
            char direction = directions.charAt(i);
            int to = i % 2;
            Check.due(7, "none before", -1, () -> x.exit(0, direction, to));
            Check.due(7, "one before", to, () -> x.exit(0, direction, 1 - to));
            Check.due(7, "none before in the other room", -1, () -> x.exit(1, direction, 1));
        }
        for (char bad : new char[] {'x', 'N', ' ', (char) 0, (char) 366}) {
            Check.refused(7, "direction " + (int) bad, ARGUMENT, () -> x.exit(0, bad, 1));
        }
        for (int bad : new int[] {-1, 2, MAX_VALUE, MIN_VALUE}) {
            Check.refused(7, "room " + bad, INDEX, () -> x.exit(bad, 'n', 0));
            Check.refused(7, "other " + bad, INDEX, () -> x.exit(0, 'n', bad));
            Check.refused(7, "no room, no direction", INDEX, () -> x.exit(0, 'x', bad));
        }
        Check.due(7, "refusals change nothing", 1, () -> x.exit(0, 'n', 0));
        x.lock(0, 'n', 0);
        Check.due(7, "in place of a locked one", 0, () -> x.exit(0, 'n', 1));
        Check.due(7, "is not locked", -1, () -> x.lock(0, 'n', 1));
        x.exit(0, 'n', 1);
        x.begin(0);
        Check.refused(7, "play has begun", STATE, () -> x.exit(0, 'n', 1));
        Check.refused(7, "begun, no direction", ARGUMENT, () -> x.exit(0, 'x', 1));
        Check.refused(7, "begun, no room", INDEX, () -> x.exit(0, 'x', 2));
        Check.due(7, "can be gone through", 'o', () -> Check.say(x, "go n"));
        Check.due(7, "leads there", 1, () -> x.at());
        Check.due(7, "to the same room", 'o', () -> Check.say(x, "go d"));
        Check.due(7, "is there", 1, () -> x.at());
    }

    private static void lock() {
        Lorewick x = small();
        x.exit(0, 'u', 1);
        x.exit(1, 'd', 0);
        Check.due(8, "none before", -1, () -> x.lock(0, 'u', 0));
        Check.due(8, "one before", 0, () -> x.lock(0, 'u', 1));
        Check.due(8, "the other exit", -1, () -> x.lock(1, 'd', 2));
        Check.refused(8, "no such exit", UNSUPPORTED, () -> x.lock(0, 'd', 0));
        Check.refused(8, "no direction", ARGUMENT, () -> x.lock(0, 'x', 0));
        for (int bad : new int[] {-1, 3, MAX_VALUE, MIN_VALUE}) {
            Check.refused(8, "thing " + bad, INDEX, () -> x.lock(0, 'u', bad));
            Check.refused(8, "room " + bad, INDEX, () -> x.lock(bad, 'u', 0));
        }
        Check.refused(8, "room 2", INDEX, () -> x.lock(2, 'x', 0));
        Check.due(8, "refusals change nothing", 1, () -> x.lock(0, 'u', 1));
        x.begin(0);
        Check.refused(8, "begun", STATE, () -> x.lock(0, 'u', 0));
        Check.refused(8, "begun, no exit", UNSUPPORTED, () -> x.lock(0, 'd', 0));
        Check.refused(8, "begun, no direction", ARGUMENT, () -> x.lock(0, 'x', 0));
        Check.refused(8, "begun, no thing", INDEX, () -> x.lock(0, 'x', 3));
        Check.due(8, "locked", 'n', () -> Check.say(x, "go u"));
        Check.say(x, "take owl");
        Check.due(8, "opened by its thing", 'o', () -> Check.say(x, "go u"));
        Check.due(8, "locked by another", 'n', () -> Check.say(x, "go d"));
    }

    private static void thing() {
        Lorewick x = small();
        Check.due(9, "next number", 3, () -> x.thing(3, 1, 1, 'p'));
        Check.word(x, "new");
        for (int bad : new int[] {-1, 5, MAX_VALUE, MIN_VALUE}) {
            Check.refused(9, "word " + bad, INDEX, () -> x.thing(bad, 0, 1, 'p'));
            Check.refused(9, "word " + bad + ", weight", INDEX, () -> x.thing(bad, 0, 0, 'p'));
        }
        for (int bad : new int[] {-1, 2, MAX_VALUE, MIN_VALUE}) {
            Check.refused(9, "room " + bad, INDEX, () -> x.thing(4, bad, 1, 'p'));
            Check.refused(9, "room " + bad + ", kind", INDEX, () -> x.thing(4, bad, 1, 'x'));
        }
        for (int bad : new int[] {0, 10, -1, MAX_VALUE, MIN_VALUE}) {
            Check.refused(9, "weight " + bad, ARGUMENT, () -> x.thing(4, 0, bad, 'p'));
            Check.refused(9, "weight " + bad + ", noun", ARGUMENT, () -> x.thing(0, 0, bad, 'p'));
        }
        for (char bad : new char[] {'x', 'P', ' ', (char) 0, (char) 368}) {
            Check.refused(9, "kind " + (int) bad, ARGUMENT, () -> x.thing(4, 0, 1, bad));
        }
        Check.refused(9, "kind, noun", ARGUMENT, () -> x.thing(0, 0, 1, 'x'));
        Check.refused(9, "noun", UNSUPPORTED, () -> x.thing(3, 0, 1, 'p'));
        Check.due(9, "refusals change nothing", 4, () -> x.thing(4, 0, 9, 'b'));
        for (int i = 5; i < 12; i++) {
            int word = Check.word(x, "w" + (char) ('a' + i));
            int number = i;
            Check.due(9, "number", number, () -> x.thing(word, 0, 1, 'l'));
        }
        int last = Check.word(x, "last");
        Check.refused(9, "13th", STATE, () -> x.thing(last, 0, 1, 'p'));
        Check.refused(9, "13th, noun", UNSUPPORTED, () -> x.thing(0, 0, 1, 'p'));
        x.begin(0);
        Check.due(9, "lies in its room", 1, () -> x.place(3));
        Check.due(9, "fuel at first, not lit", -11, () -> x.lit(5));
        Check.due(9, "closed at first", false, () -> x.isOpen(4));
        Lorewick y = begun();
        Check.refused(9, "begun", STATE, () -> y.thing(3, 0, 1, 'p'));
        Check.refused(9, "begun, noun", UNSUPPORTED, () -> y.thing(2, 0, 1, 'p'));
        Check.refused(9, "begun, weight", ARGUMENT, () -> y.thing(2, 0, 10, 'p'));
        Check.refused(9, "begun, word", INDEX, () -> y.thing(4, 0, 10, 'p'));
    }

    private static void fuel() {
        Lorewick x = small();
        Check.due(10, "at first", 10, () -> x.fuel(0, 99));
        Check.due(10, "then", 99, () -> x.fuel(0, 0));
        Check.due(10, "none", 0, () -> x.fuel(0, 7));
        for (int bad : new int[] {-1, 100, MAX_VALUE, MIN_VALUE}) {
            Check.refused(10, "turns " + bad, ARGUMENT, () -> x.fuel(0, bad));
            Check.refused(10, "turns " + bad + ", no lamp", ARGUMENT, () -> x.fuel(1, bad));
        }
        for (int bad : new int[] {-1, 3, MAX_VALUE, MIN_VALUE}) {
            Check.refused(10, "thing " + bad, INDEX, () -> x.fuel(bad, 1));
            Check.refused(10, "thing " + bad + ", turns", INDEX, () -> x.fuel(bad, 100));
        }
        Check.refused(10, "a box", UNSUPPORTED, () -> x.fuel(1, 1));
        Check.refused(10, "a plain thing", UNSUPPORTED, () -> x.fuel(2, 1));
        Check.due(10, "refusals change nothing", 7, () -> x.fuel(0, 5));
        x.begin(0);
        Check.due(10, "in play", -6, () -> x.lit(0));
        Check.refused(10, "begun", STATE, () -> x.fuel(0, 1));
        Check.refused(10, "begun, no lamp", UNSUPPORTED, () -> x.fuel(1, 1));
        Check.refused(10, "begun, turns", ARGUMENT, () -> x.fuel(1, 100));
        Check.refused(10, "begun, thing", INDEX, () -> x.fuel(3, 100));
    }

    private static void tell() {
        Lorewick x = small();
        Check.due(11, "first", 1, () -> x.tell(0, 3));
        Check.due(11, "again", 1, () -> x.tell(0, 3));
        Check.due(11, "its noun", 2, () -> x.tell(0, 0));
        Check.due(11, "other thing", 1, () -> x.tell(1, 2));
        for (int bad : new int[] {-1, 3, MAX_VALUE, MIN_VALUE}) {
            Check.refused(11, "thing " + bad, INDEX, () -> x.tell(bad, 0));
        }
        for (int bad : new int[] {-1, 4, MAX_VALUE, MIN_VALUE}) {
            Check.refused(11, "word " + bad, INDEX, () -> x.tell(0, bad));
        }
        Check.due(11, "refusals change nothing", 2, () -> x.tell(0, 0));
        x.begin(0);
        Check.due(11, "not shown at first", false, () -> x.isKnown(3));
        Check.say(x, "look tin");
        Check.due(11, "shown as it is looked at", true, () -> x.isKnown(3));
        Check.refused(11, "begun", STATE, () -> x.tell(0, 0));
        Check.refused(11, "begun, no thing", INDEX, () -> x.tell(3, 0));
        Check.refused(11, "begun, no word", INDEX, () -> x.tell(0, 4));
    }

    private static void goal() {
        Lorewick x = small();
        Check.due(12, "first", 1, () -> x.goal(0, 0));
        Check.due(12, "again", 2, () -> x.goal(0, 0));
        for (int bad : new int[] {-1, 3, MAX_VALUE, MIN_VALUE}) {
            Check.refused(12, "thing " + bad, INDEX, () -> x.goal(bad, 0));
        }
        for (int bad : new int[] {-1, 2, MAX_VALUE, MIN_VALUE}) {
            Check.refused(12, "room " + bad, INDEX, () -> x.goal(0, bad));
        }
        for (int i = 3; i <= 6; i++) {
            int count = i;
            Check.due(12, "next", count, () -> x.goal(1, 1));
        }
        Check.refused(12, "7th", STATE, () -> x.goal(2, 1));
        Check.refused(12, "7th, no room", INDEX, () -> x.goal(2, 2));
        x.begin(0);
        Check.due(12, "two are reached", 2, () -> x.score());
        Lorewick y = begun();
        Check.refused(12, "begun", STATE, () -> y.goal(0, 0));
        Check.refused(12, "begun, no thing", INDEX, () -> y.goal(3, 0));
    }

    private static void hint() {
        Lorewick x = new Lorewick();
        for (int bad : new int[] {0, 51, -1, MAX_VALUE, MIN_VALUE}) {
            Check.refused(13, "base " + bad, ARGUMENT, () -> x.hint(bad));
        }
        for (int i = 0; i < 12; i++) {
            int number = i;
            Check.due(13, "number", number, () -> x.hint(number == 0 ? 1 : 50));
        }
        Check.refused(13, "13th", STATE, () -> x.hint(1));
        Check.refused(13, "13th, base", ARGUMENT, () -> x.hint(51));
        Lorewick y = begun();
        Check.due(13, "in play", 0, () -> y.hint(20));
        Check.due(13, "without words", 0, () -> y.price(0));
        y.teach(0, 3);
        Check.due(13, "its base", 40, () -> y.price(0));
    }

    private static void teach() {
        Lorewick x = small();
        for (int i = 4; i < 8; i++) {
            Check.word(x, "w" + (char) ('a' + i));
        }
        x.hint(5);
        x.hint(6);
        for (int bad : new int[] {-1, 2, MAX_VALUE, MIN_VALUE}) {
            Check.refused(14, "hint " + bad, INDEX, () -> x.teach(bad, 0));
        }
        for (int bad : new int[] {-1, 8, MAX_VALUE, MIN_VALUE}) {
            Check.refused(14, "word " + bad, INDEX, () -> x.teach(0, bad));
        }
        for (int i = 0; i < 6; i++) {
            int word = i;
            Check.due(14, "how many", i + 1, () -> x.teach(0, word));
        }
        Check.refused(14, "7th", STATE, () -> x.teach(0, 6));
        Check.refused(14, "7th, has it", UNSUPPORTED, () -> x.teach(0, 0));
        Check.refused(14, "7th, no word", INDEX, () -> x.teach(0, 8));
        Check.due(14, "another hint", 1, () -> x.teach(1, 6));
        Check.refused(14, "has it", UNSUPPORTED, () -> x.teach(1, 6));
        x.begin(0);
        Check.due(14, "in play", 2, () -> x.teach(1, 7));
        x.buy(1);
        Check.refused(14, "sold", UNSUPPORTED, () -> x.teach(1, 0));
        x.undo();
        Check.refused(14, "sold behind this node", UNSUPPORTED, () -> x.teach(1, 0));
        Check.say(x, "wait");
        Check.refused(14, "sold on another path", UNSUPPORTED, () -> x.teach(1, 0));
        x.earn(99);
        x.buy(0);
        Check.refused(14, "sold, has 6", UNSUPPORTED, () -> x.teach(0, 6));
    }

    private static void begin() {
        Lorewick x = small();
        x.show(0, 3);
        Check.type(x, "wait");
        for (int bad : new int[] {-1, 2, MAX_VALUE, MIN_VALUE}) {
            Check.refused(15, "room " + bad, INDEX, () -> x.begin(bad));
        }
        Check.refused(15, "not begun by a refusal", STATE, () -> x.node());
        Check.due(15, "words of the room, nouns at hand", 3, () -> x.begin(0));
        Check.due(15, "in the room", 0, () -> x.at());
        Check.due(15, "node 0", 0, () -> x.node());
        Check.due(15, "one node", 1, () -> x.nodes());
        Check.refused(15, "again", STATE, () -> x.begin(1));
        Check.refused(15, "again, no room", INDEX, () -> x.begin(2));
        Check.due(15, "what is typed stays", 'o', () -> x.say());
        Lorewick y = small();
        y.show(1, 3);
        Check.due(15, "a dark room shows nothing", 0, () -> y.begin(1));
        Check.due(15, "in room 1", 1, () -> y.at());
    }
}
