import java.util.ArrayList;
import java.util.Arrays;
import java.util.NoSuchElementException;

/** A text adventure with an undo tree, an index of words, and a shop of hints. */
public final class Lorewick {

    private static final int NONE = -1;
    private static final int MAX_SIGNS = 30;
    private static final int MAX_PARTS = 4;
    private static final int MAX_WORDS = 40;
    private static final int MAX_LETTERS = 8;
    private static final int LETTER_BITS = 5;
    private static final int LETTER_MASK = 31;
    private static final int MAX_ROOMS = 12;
    private static final int MAX_THINGS = 12;
    private static final int MAX_GOALS = 6;
    private static final int MAX_THING_WEIGHT = 9;
    private static final int MAX_CARRIED_WEIGHT = 12;
    private static final int MAX_IN_BOX = 3;
    private static final int MAX_FUEL = 99;
    private static final int FIRST_FUEL = 10;
    private static final int MAX_HINTS = 12;
    private static final int MAX_HINT_WORDS = 6;
    private static final int MAX_BASE = 50;
    private static final int MAX_EARNED = 99;
    private static final int FIRST_COINS = 100;
    private static final int MAX_NODES = 80;
    private static final int CARRIED = 100;
    private static final int IN_BOX = 200;
    private static final char PLAIN = 'p';
    private static final char LAMP = 'l';
    private static final char BOX = 'b';
    private static final char DONE = 'o';
    private static final char NOT_UNDERSTOOD = '?';
    private static final char NOT_KNOWN = 'w';
    private static final char NOT_POSSIBLE = 'n';
    private static final int WAYS = 6;
    private static final String DIRECTIONS = "neswud";
    private static final Verb[] VERBS = Verb.values();

    private final Text typed = new Text();
    private final World world = new World();
    private final Rules rules = new Rules(world);
    private final Tree tree = new Tree();
    private final Shop shop = new Shop();
    // A command is tried out here, so that no node's state changes if it cannot be done.
    private final State work = new State();
    private final StringBuilder line = new StringBuilder();

    /** What leads to a node; one with 0 parts cannot be typed. */
    private enum Verb {
        START("start", 0, 0),
        GO("go", 2, 0),
        TAKE("take", 2, 1),
        DROP("drop", 2, 1),
        OPEN("open", 2, 1),
        CLOSE("close", 2, 1),
        LIGHT("light", 2, 1),
        DOUSE("douse", 2, 1),
        LOOK_AT("look", 2, 1),
        PUT("put", 4, 2),
        LOOK("look", 1, 0),
        WAIT("wait", 1, 0),
        BUY("buy", 0, 0),
        READ("read", 0, 0),
        MERGE("merge", 0, 0);

        final String text;
        final int parts;
        final int nouns;

        Verb(String text, int parts, int nouns) {
            this.text = text;
            this.parts = parts;
            this.nouns = nouns;
        }
    }

    /** A verb with its words, its direction, or its number. */
    private static final class Command {
        final Verb verb;
        final int first;
        final int second;

        Command(Verb verb, int first, int second) {
            this.verb = verb;
            this.first = first;
            this.second = second;
        }

        boolean isSame(Command other) {
            return verb == other.verb && first == other.first && second == other.second;
        }
    }

    /** What is typed. */
    private static final class Text {
        final char[] signs = new char[MAX_SIGNS];
        final int[] starts = new int[MAX_PARTS];
        final int[] ends = new int[MAX_PARTS];
        int length;

        void add(char sign) {
            if (length < MAX_SIGNS) {
                signs[length] = sign;
                length++;
            }
        }

        /** Returns how many parts there are, 0 if there are too many, or an empty one. */
        int divide() {
            int parts = 0;
            int start = 0;
            for (int i = 0; i <= length; i++) {
                if (i < length && signs[i] != ' ') {
                    continue;
                }
                if (i == start || parts == MAX_PARTS) {
                    return 0;
                }
                starts[parts] = start;
                ends[parts] = i;
                parts++;
                start = i + 1;
            }
            return parts;
        }

        boolean isPart(int part, String text) {
            if (ends[part] - starts[part] != text.length()) {
                return false;
            }
            for (int i = 0; i < text.length(); i++) {
                if (signs[starts[part] + i] != text.charAt(i)) {
                    return false;
                }
            }
            return true;
        }

        /** Returns the sign of a part that has one alone, otherwise a blank. */
        char onlySign(int part) {
            return ends[part] - starts[part] == 1 ? signs[starts[part]] : ' ';
        }

        long lettersOfPart(int part) {
            return packed(starts[part], ends[part]);
        }

        long lettersOfAll() {
            return packed(0, length);
        }

        /** Returns the letters as one number, 0 if they are not 1 to 8 letters. */
        long packed(int start, int end) {
            if (end - start > MAX_LETTERS) {
                return 0;
            }
            long letters = 0;
            for (int i = start; i < end; i++) {
                if (signs[i] == ' ') {
                    return 0;
                }
                letters = (letters << LETTER_BITS) + (signs[i] - 'a' + 1);
            }
            return letters;
        }
    }

    /** What is told ahead of play, and the words. Words are held as bits where there are several. */
    private static final class World {
        final long[] letters = new long[MAX_WORDS];
        int wordCount;
        final boolean[] dark = new boolean[MAX_ROOMS];
        final long[] roomWords = new long[MAX_ROOMS];
        final int[] exits = new int[MAX_ROOMS * WAYS];
        final int[] locks = new int[MAX_ROOMS * WAYS];
        int roomCount;
        final int[] nouns = new int[MAX_THINGS];
        final int[] firstRooms = new int[MAX_THINGS];
        final int[] weights = new int[MAX_THINGS];
        final char[] kinds = new char[MAX_THINGS];
        final int[] fuels = new int[MAX_THINGS];
        final long[] thingWords = new long[MAX_THINGS];
        int thingCount;
        final int[] goalThings = new int[MAX_GOALS];
        final int[] goalRooms = new int[MAX_GOALS];
        int goalCount;

        World() {
            Arrays.fill(exits, NONE);
            Arrays.fill(locks, NONE);
        }

        boolean hasWord(int word) {
            return word >= 0 && word < wordCount;
        }

        boolean hasRoom(int room) {
            return room >= 0 && room < roomCount;
        }

        boolean hasThing(int thing) {
            return thing >= 0 && thing < thingCount;
        }

        /** Returns the word of these letters, or none. */
        int wordOf(long wanted) {
            for (int i = 0; i < wordCount; i++) {
                if (letters[i] == wanted) {
                    return i;
                }
            }
            return NONE;
        }

        /** Returns the thing whose noun a word is, or none. */
        int thingOf(int word) {
            for (int i = 0; i < thingCount; i++) {
                if (nouns[i] == word) {
                    return i;
                }
            }
            return NONE;
        }
    }

    /** Where all is at a node. */
    private static final class State {
        int room;
        final int[] places = new int[MAX_THINGS];
        final int[] fuels = new int[MAX_THINGS];
        // Of a box that it is open, of a lamp that it is lit.
        final boolean[] on = new boolean[MAX_THINGS];

        void copy(State other) {
            room = other.room;
            for (int i = 0; i < MAX_THINGS; i++) {
                places[i] = other.places[i];
                fuels[i] = other.fuels[i];
                on[i] = other.on[i];
            }
        }

        boolean isLike(State other) {
            for (int i = 0; i < MAX_THINGS; i++) {
                if (places[i] != other.places[i] || fuels[i] != other.fuels[i] || on[i] != other.on[i]) {
                    return false;
                }
            }
            return room == other.room;
        }
    }

    /** What commands make of states. */
    private static final class Rules {
        final World world;
        final int[] distances = new int[MAX_ROOMS];

        Rules(World world) {
            this.world = world;
        }

        void setUp(State state, int room) {
            state.room = room;
            for (int i = 0; i < MAX_THINGS; i++) {
                state.places[i] = world.firstRooms[i];
                state.fuels[i] = world.fuels[i];
                state.on[i] = false;
            }
        }

        /** Returns the open box in which a thing is, or none. */
        int openBoxOf(State state, int thing) {
            int box = state.places[thing] - IN_BOX;
            return box >= 0 && box < world.thingCount && state.on[box] ? box : NONE;
        }

        boolean isHeld(State state, int thing) {
            int box = openBoxOf(state, thing);
            return state.places[box == NONE ? thing : box] == CARRIED;
        }

        boolean isAtHand(State state, int thing) {
            int box = openBoxOf(state, thing);
            int place = state.places[box == NONE ? thing : box];
            return place == CARRIED || place == state.room;
        }

        boolean hasLight(State state) {
            if (!world.dark[state.room]) {
                return true;
            }
            for (int i = 0; i < world.thingCount; i++) {
                if (world.kinds[i] == LAMP && state.on[i] && isAtHand(state, i)) {
                    return true;
                }
            }
            return false;
        }

        boolean isInReach(State state, int thing, boolean light) {
            return light ? isAtHand(state, thing) : isHeld(state, thing);
        }

        long wordsShown(State state) {
            boolean light = hasLight(state);
            long words = light ? world.roomWords[state.room] : 0;
            for (int i = 0; i < world.thingCount; i++) {
                if (isInReach(state, i, light)) {
                    words |= 1L << world.nouns[i];
                }
            }
            return words;
        }

        int carriedWeight(State state) {
            int sum = 0;
            for (int i = 0; i < world.thingCount; i++) {
                int box = state.places[i] - IN_BOX;
                if (state.places[world.hasThing(box) ? box : i] == CARRIED) {
                    sum += world.weights[i];
                }
            }
            return sum;
        }

        int countIn(State state, int box) {
            int count = 0;
            for (int i = 0; i < world.thingCount; i++) {
                if (state.places[i] == IN_BOX + box) {
                    count++;
                }
            }
            return count;
        }

        int goalsReached(State state) {
            int count = 0;
            for (int i = 0; i < world.goalCount; i++) {
                if (state.places[world.goalThings[i]] == world.goalRooms[i]) {
                    count++;
                }
            }
            return count;
        }

        /** Returns the room behind an exit that can be gone through, or none. */
        int roomBehind(State state, int room, int direction) {
            int exit = room * WAYS + direction;
            int lock = world.locks[exit];
            return lock == NONE || state.places[lock] == CARRIED ? world.exits[exit] : NONE;
        }

        int distanceTo(State state, int room) {
            Arrays.fill(distances, NONE);
            distances[state.room] = 0;
            for (int i = 0; i < world.roomCount && distances[room] == NONE; i++) {
                goFurther(state, i);
            }
            return distances[room];
        }

        void goFurther(State state, int distance) {
            for (int room = 0; room < world.roomCount; room++) {
                for (int i = 0; i < WAYS && distances[room] == distance; i++) {
                    int next = roomBehind(state, room, i);
                    if (next != NONE && distances[next] == NONE) {
                        distances[next] = distance + 1;
                    }
                }
            }
        }

        /** Does what was typed; returns whether it could be done, and changes nothing if not. */
        boolean perform(State state, Command command) {
            if (command.verb == Verb.GO) {
                return move(state, command.first);
            }
            if (command.verb.nouns == 0) {
                return true;
            }
            boolean light = hasLight(state);
            int thing = world.thingOf(command.first);
            if (thing == NONE || !isInReach(state, thing, light)) {
                return false;
            }
            if (command.verb.nouns == 1) {
                return handle(state, command.verb, thing);
            }
            int box = world.thingOf(command.second);
            return box != NONE && isInReach(state, box, light) && stow(state, thing, box);
        }

        boolean move(State state, int direction) {
            int next = roomBehind(state, state.room, direction);
            if (next == NONE) {
                return false;
            }
            state.room = next;
            return true;
        }

        boolean handle(State state, Verb verb, int thing) {
            switch (verb) {
                case TAKE:
                    return pickUp(state, thing);
                case DROP:
                    return layDown(state, thing);
                case OPEN:
                    return turn(state, thing, BOX, true);
                case CLOSE:
                    return turn(state, thing, BOX, false);
                case LIGHT:
                    return state.fuels[thing] > 0 && turn(state, thing, LAMP, true);
                case DOUSE:
                    return turn(state, thing, LAMP, false);
                default:
                    return true;
            }
        }

        boolean pickUp(State state, int thing) {
            int place = state.places[thing];
            if (place == CARRIED) {
                return false;
            }
            state.places[thing] = CARRIED;
            if (carriedWeight(state) <= MAX_CARRIED_WEIGHT) {
                return true;
            }
            state.places[thing] = place;
            return false;
        }

        boolean layDown(State state, int thing) {
            if (state.places[thing] != CARRIED) {
                return false;
            }
            state.places[thing] = state.room;
            return true;
        }

        boolean turn(State state, int thing, char kind, boolean on) {
            if (world.kinds[thing] != kind || state.on[thing] == on) {
                return false;
            }
            state.on[thing] = on;
            return true;
        }

        boolean stow(State state, int thing, int box) {
            boolean isLoose = state.places[thing] == CARRIED && world.kinds[thing] != BOX;
            boolean hasSpace = world.kinds[box] == BOX && state.on[box] && countIn(state, box) < MAX_IN_BOX;
            if (!isLoose || !hasSpace) {
                return false;
            }
            state.places[thing] = IN_BOX + box;
            return true;
        }

        /** Takes what is carried in another state; returns how many things. */
        int pickUpAsIn(State state, State there) {
            int count = 0;
            boolean light = hasLight(state);
            for (int i = 0; i < world.thingCount; i++) {
                boolean isWanted = light && there.places[i] == CARRIED && state.places[i] == state.room;
                if (isWanted && pickUp(state, i)) {
                    count++;
                }
            }
            return count;
        }

        void burn(State state) {
            for (int i = 0; i < world.thingCount; i++) {
                if (world.kinds[i] == LAMP && state.on[i]) {
                    state.fuels[i]--;
                    state.on[i] = state.fuels[i] > 0;
                }
            }
        }
    }

    /** A node of the tree; the chain of parents ends at the node 0. */
    private static final class Node {
        final int number;
        final Node parent;
        final Command command;
        final State state = new State();
        final long shown;
        // The letters of its name as one number, 0 without one.
        long label;

        Node(int number, Node parent, Command command, State state, long shown) {
            this.number = number;
            this.parent = parent;
            this.command = command;
            this.state.copy(state);
            this.shown = shown;
        }

        boolean isOnPathOf(Node other) {
            for (Node at = other; at != null; at = at.parent) {
                if (at == this) {
                    return true;
                }
            }
            return false;
        }

        int pathLength() {
            int count = 0;
            for (Node at = parent; at != null; at = at.parent) {
                count++;
            }
            return count;
        }

        long wordsOfPath() {
            long words = 0;
            for (Node at = this; at != null; at = at.parent) {
                words |= at.shown;
            }
            return words;
        }

        int firstToShow(int word) {
            int first = NONE;
            for (Node at = this; at != null; at = at.parent) {
                if (includes(at.shown, word)) {
                    first = at.number;
                }
            }
            return first;
        }

        int lastInCommon(Node other) {
            for (Node at = this; at != null; at = at.parent) {
                if (at.isOnPathOf(other)) {
                    return at.number;
                }
            }
            return NONE;
        }
    }

    /** All nodes, and where play is. */
    private static final class Tree {
        final ArrayList<Node> list = new ArrayList<>();
        final int[] posted = new int[MAX_WORDS];
        int here;

        boolean isEmpty() {
            return list.isEmpty();
        }

        boolean isFull() {
            return list.size() >= MAX_NODES;
        }

        boolean has(int number) {
            return number >= 0 && number < list.size();
        }

        Node current() {
            return list.get(here);
        }

        Node add(Command command, State state, long shown) {
            int number = list.size();
            Node node = new Node(number, number == 0 ? null : current(), command, state, shown);
            list.add(node);
            for (int i = 0; i < MAX_WORDS; i++) {
                if (includes(shown, i)) {
                    posted[i]++;
                }
            }
            return node;
        }

        /** Returns the child to which a command has led already, or none. */
        int childBy(Command command) {
            Node parent = current();
            for (int i = here + 1; i < list.size(); i++) {
                Node node = list.get(i);
                if (node.parent == parent && node.command.isSame(command)) {
                    return i;
                }
            }
            return NONE;
        }

        int childAt(int index) {
            Node parent = current();
            int before = 0;
            for (int i = here + 1; i < list.size(); i++) {
                if (list.get(i).parent == parent) {
                    if (before == index) {
                        return i;
                    }
                    before++;
                }
            }
            return NONE;
        }

        int childCount(int number) {
            Node parent = list.get(number);
            int count = 0;
            for (int i = number + 1; i < list.size(); i++) {
                if (list.get(i).parent == parent) {
                    count++;
                }
            }
            return count;
        }

        int nodeLabelled(long label) {
            for (int i = 0; i < list.size(); i++) {
                if (label != 0 && list.get(i).label == label) {
                    return i;
                }
            }
            return NONE;
        }

        int labelCount() {
            int count = 0;
            for (int i = 0; i < list.size(); i++) {
                if (list.get(i).label != 0) {
                    count++;
                }
            }
            return count;
        }

        int postingAt(int word, int index) {
            int before = 0;
            for (int i = 0; i < list.size(); i++) {
                if (includes(list.get(i).shown, word)) {
                    if (before == index) {
                        return i;
                    }
                    before++;
                }
            }
            return NONE;
        }

        /** Returns how many nodes have shown one of several words or more. */
        int nodesShowing(long words) {
            int count = 0;
            for (int i = 0; i < list.size(); i++) {
                if ((list.get(i).shown & words) != 0) {
                    count++;
                }
            }
            return count;
        }

        int byRarity(long words, int index) {
            for (int i = 0; i < MAX_WORDS; i++) {
                if (includes(words, i) && rarerThan(words, i) == index) {
                    return i;
                }
            }
            return NONE;
        }

        int rarerThan(long words, int word) {
            int count = 0;
            for (int i = 0; i < MAX_WORDS; i++) {
                boolean isRarer = posted[i] < posted[word] || (posted[i] == posted[word] && i < word);
                if (isRarer && includes(words, i)) {
                    count++;
                }
            }
            return count;
        }
    }

    /** A hint that was sold. */
    private static final class Sale {
        final int hint;
        final Node node;
        final int coins;

        Sale(int hint, Node node, int coins) {
            this.hint = hint;
            this.node = node;
            this.coins = coins;
        }
    }

    /** The hints, and what became of the coins. */
    private static final class Shop {
        final int[] bases = new int[MAX_HINTS];
        final long[] hintWords = new long[MAX_HINTS];
        int hintCount;
        final ArrayList<Sale> sold = new ArrayList<>();
        int purse = FIRST_COINS;
        int earned;

        boolean hasHint(int hint) {
            return hint >= 0 && hint < hintCount;
        }

        boolean wasSold(int hint) {
            for (int i = 0; i < sold.size(); i++) {
                if (sold.get(i).hint == hint) {
                    return true;
                }
            }
            return false;
        }

        boolean isOwnedAt(int hint, Node node) {
            for (int i = 0; i < sold.size(); i++) {
                Sale sale = sold.get(i);
                if (sale.hint == hint && areOnOnePath(sale.node, node)) {
                    return true;
                }
            }
            return false;
        }

        int priceAt(int hint, Node node, Tree tree) {
            long words = hintWords[hint];
            int unknown = Long.bitCount(words & ~node.wordsOfPath());
            int nodeCount = tree.list.size();
            if (unknown == 0 || nodeCount == 0) {
                return 0;
            }
            float share = (float) tree.nodesShowing(words) / (float) nodeCount;
            return (int) ((float) (bases[hint] * unknown) * (2.0f - share));
        }

        int paid() {
            int sum = 0;
            for (int i = 0; i < sold.size(); i++) {
                sum += sold.get(i).coins;
            }
            return sum;
        }

        boolean isAnySoldTwice() {
            for (int i = 0; i < sold.size(); i++) {
                for (int j = i + 1; j < sold.size(); j++) {
                    Sale one = sold.get(i);
                    Sale other = sold.get(j);
                    if (one.hint == other.hint && areOnOnePath(one.node, other.node)) {
                        return true;
                    }
                }
            }
            return false;
        }
    }

    private static boolean areOnOnePath(Node one, Node other) {
        return one.isOnPathOf(other) || other.isOnPathOf(one);
    }

    private static boolean includes(long words, int word) {
        return word >= 0 && word < MAX_WORDS && ((words >> word) & 1L) == 1L;
    }

    public Lorewick() {
    }

    public int type(char sign) throws IllegalArgumentException, IllegalStateException {
        if (sign != ' ' && (sign < 'a' || sign > 'z')) {
            throw new IllegalArgumentException("no such sign");
        }
        if (typed.length >= MAX_SIGNS) {
            throw new IllegalStateException("30 signs are typed");
        }
        typed.add(sign);
        return typed.length;
    }

    public int clear() {
        int count = typed.length;
        typed.length = 0;
        return count;
    }

    public int word() throws IllegalArgumentException, UnsupportedOperationException, IllegalStateException {
        long letters = typed.lettersOfAll();
        if (letters == 0) {
            throw new IllegalArgumentException("not 1 to 8 letters");
        }
        if (world.wordOf(letters) != NONE) {
            throw new UnsupportedOperationException("there is such a word");
        }
        if (world.wordCount >= MAX_WORDS) {
            throw new IllegalStateException("there are 40 words");
        }
        world.letters[world.wordCount] = letters;
        world.wordCount++;
        typed.length = 0;
        return world.wordCount - 1;
    }

    public int room(boolean isDark) throws IllegalStateException {
        needNoPlay();
        if (world.roomCount >= MAX_ROOMS) {
            throw new IllegalStateException("there are 12 rooms");
        }
        world.dark[world.roomCount] = isDark;
        world.roomCount++;
        return world.roomCount - 1;
    }

    public int show(int room, int word) throws IndexOutOfBoundsException, IllegalStateException {
        needRoom(room);
        needWord(word);
        needNoPlay();
        world.roomWords[room] |= 1L << word;
        return Long.bitCount(world.roomWords[room]);
    }

    public int exit(int room, char direction, int other)
            throws IndexOutOfBoundsException, IllegalArgumentException, IllegalStateException {
        needRoom(room);
        needRoom(other);
        int exit = exitIn(room, direction);
        needNoPlay();
        int before = world.exits[exit];
        world.exits[exit] = other;
        world.locks[exit] = NONE;
        return before;
    }

    public int lock(int room, char direction, int thing)
            throws IndexOutOfBoundsException, IllegalArgumentException, UnsupportedOperationException,
            IllegalStateException {
        needRoom(room);
        needThing(thing);
        int exit = exitIn(room, direction);
        if (world.exits[exit] == NONE) {
            throw new UnsupportedOperationException("no such exit");
        }
        needNoPlay();
        int before = world.locks[exit];
        world.locks[exit] = thing;
        return before;
    }

    public int thing(int word, int room, int weight, char kind)
            throws IndexOutOfBoundsException, IllegalArgumentException, UnsupportedOperationException,
            IllegalStateException {
        needWord(word);
        needRoom(room);
        if (weight < 1 || weight > MAX_THING_WEIGHT) {
            throw new IllegalArgumentException("the weight is out of range");
        }
        if (kind != PLAIN && kind != LAMP && kind != BOX) {
            throw new IllegalArgumentException("no such kind");
        }
        if (world.thingOf(word) != NONE) {
            throw new UnsupportedOperationException("another thing has this noun");
        }
        needNoPlay();
        if (world.thingCount >= MAX_THINGS) {
            throw new IllegalStateException("there are 12 things");
        }
        int thing = world.thingCount;
        world.nouns[thing] = word;
        world.firstRooms[thing] = room;
        world.weights[thing] = weight;
        world.kinds[thing] = kind;
        world.fuels[thing] = kind == LAMP ? FIRST_FUEL : 0;
        world.thingCount++;
        return thing;
    }

    public int fuel(int thing, int turns)
            throws IndexOutOfBoundsException, IllegalArgumentException, UnsupportedOperationException,
            IllegalStateException {
        needThing(thing);
        if (turns < 0 || turns > MAX_FUEL) {
            throw new IllegalArgumentException("the turns are out of range");
        }
        needKind(thing, LAMP);
        needNoPlay();
        int before = world.fuels[thing];
        world.fuels[thing] = turns;
        return before;
    }

    public int tell(int thing, int word) throws IndexOutOfBoundsException, IllegalStateException {
        needThing(thing);
        needWord(word);
        needNoPlay();
        world.thingWords[thing] |= 1L << word;
        return Long.bitCount(world.thingWords[thing]);
    }

    public int goal(int thing, int room) throws IndexOutOfBoundsException, IllegalStateException {
        needThing(thing);
        needRoom(room);
        needNoPlay();
        if (world.goalCount >= MAX_GOALS) {
            throw new IllegalStateException("there are 6 goals");
        }
        world.goalThings[world.goalCount] = thing;
        world.goalRooms[world.goalCount] = room;
        world.goalCount++;
        return world.goalCount;
    }

    public int hint(int base) throws IllegalArgumentException, IllegalStateException {
        if (base < 1 || base > MAX_BASE) {
            throw new IllegalArgumentException("the base is out of range");
        }
        if (shop.hintCount >= MAX_HINTS) {
            throw new IllegalStateException("there are 12 hints");
        }
        shop.bases[shop.hintCount] = base;
        shop.hintCount++;
        return shop.hintCount - 1;
    }

    public int teach(int hint, int word)
            throws IndexOutOfBoundsException, UnsupportedOperationException, IllegalStateException {
        needHint(hint);
        needWord(word);
        long words = shop.hintWords[hint];
        if (includes(words, word)) {
            throw new UnsupportedOperationException("it has this word");
        }
        if (shop.wasSold(hint)) {
            throw new UnsupportedOperationException("it was sold");
        }
        if (Long.bitCount(words) >= MAX_HINT_WORDS) {
            throw new IllegalStateException("it has 6 words");
        }
        shop.hintWords[hint] = words | (1L << word);
        return Long.bitCount(shop.hintWords[hint]);
    }

    public int begin(int room) throws IndexOutOfBoundsException, IllegalStateException {
        needRoom(room);
        needNoPlay();
        rules.setUp(work, room);
        tree.add(new Command(Verb.START, room, NONE), work, rules.wordsShown(work));
        return wordsKnown();
    }

    public char say() throws IllegalStateException {
        needPlay();
        Command command = understood();
        char answer = command == null ? NOT_UNDERSTOOD : tried(command);
        if (command != null && answer == DONE) {
            needNodeFor(command);
            follow(command);
        }
        typed.length = 0;
        return answer;
    }

    public int at() throws IllegalStateException {
        return stateHere().room;
    }

    public int place(int thing) throws IndexOutOfBoundsException, IllegalStateException {
        needThing(thing);
        return stateHere().places[thing];
    }

    public boolean isOpen(int thing)
            throws IndexOutOfBoundsException, IllegalStateException, UnsupportedOperationException {
        needThing(thing);
        State state = stateHere();
        needKind(thing, BOX);
        return state.on[thing];
    }

    public int lit(int thing)
            throws IndexOutOfBoundsException, IllegalStateException, UnsupportedOperationException {
        needThing(thing);
        State state = stateHere();
        needKind(thing, LAMP);
        return state.on[thing] ? state.fuels[thing] : -1 - state.fuels[thing];
    }

    public boolean isBright() throws IllegalStateException {
        return rules.hasLight(stateHere());
    }

    public int weight() throws IllegalStateException {
        return rules.carriedWeight(stateHere());
    }

    public int node() throws IllegalStateException {
        needPlay();
        return tree.here;
    }

    public int nodes() throws IllegalStateException {
        needPlay();
        return tree.list.size();
    }

    public int parent(int node) throws IndexOutOfBoundsException, NoSuchElementException {
        Node parent = nodeOf(node).parent;
        if (parent == null) {
            throw new NoSuchElementException("the node 0 has no parent");
        }
        return parent.number;
    }

    public int depth(int node) throws IndexOutOfBoundsException {
        return nodeOf(node).pathLength();
    }

    public int children(int node) throws IndexOutOfBoundsException {
        return tree.childCount(nodeOf(node).number);
    }

    public int common(int node, int other) throws IndexOutOfBoundsException {
        Node one = nodeOf(node);
        return one.lastInCommon(nodeOf(other));
    }

    public int undo() throws IllegalStateException, NoSuchElementException {
        needPlay();
        Node parent = tree.current().parent;
        if (parent == null) {
            throw new NoSuchElementException("play is at the node 0");
        }
        tree.here = parent.number;
        return tree.here;
    }

    public int redo(int index) throws IllegalStateException, NoSuchElementException {
        needPlay();
        int child = tree.childAt(index);
        if (child == NONE) {
            throw new NoSuchElementException("no such child");
        }
        tree.here = child;
        return child;
    }

    public int name() throws IllegalStateException, IllegalArgumentException, UnsupportedOperationException {
        needPlay();
        long label = typed.lettersOfAll();
        if (label == 0) {
            throw new IllegalArgumentException("not 1 to 8 letters");
        }
        int named = tree.nodeLabelled(label);
        if (named != NONE && named != tree.here) {
            throw new UnsupportedOperationException("another node has this name");
        }
        tree.current().label = label;
        typed.length = 0;
        return tree.labelCount();
    }

    public int jump() throws IllegalStateException, NoSuchElementException {
        needPlay();
        int named = tree.nodeLabelled(typed.lettersOfAll());
        if (named == NONE) {
            throw new NoSuchElementException("no such name");
        }
        tree.here = named;
        typed.length = 0;
        return named;
    }

    public boolean isKnown(int word) throws IndexOutOfBoundsException, IllegalStateException {
        needWord(word);
        needPlay();
        return includes(tree.current().wordsOfPath(), word);
    }

    public int known() throws IllegalStateException {
        needPlay();
        return wordsKnown();
    }

    public int learnt(int word) throws IndexOutOfBoundsException, IllegalStateException, NoSuchElementException {
        needWord(word);
        needPlay();
        int first = tree.current().firstToShow(word);
        if (first == NONE) {
            throw new NoSuchElementException("it is not known");
        }
        return first;
    }

    public int postings(int word) throws IndexOutOfBoundsException {
        needWord(word);
        return tree.posted[word];
    }

    public int posting(int word, int index) throws IndexOutOfBoundsException, NoSuchElementException {
        needWord(word);
        int node = tree.postingAt(word, index);
        if (node == NONE) {
            throw new NoSuchElementException("no such posting");
        }
        return node;
    }

    public int rare(int index) throws IllegalStateException, NoSuchElementException {
        needPlay();
        int word = tree.byRarity(tree.current().wordsOfPath(), index);
        if (word == NONE) {
            throw new NoSuchElementException("no such word");
        }
        return word;
    }

    public int price(int hint)
            throws IndexOutOfBoundsException, IllegalStateException, UnsupportedOperationException {
        needHint(hint);
        needPlay();
        needNotOwned(hint);
        return shop.priceAt(hint, tree.current(), tree);
    }

    public int buy(int hint)
            throws IndexOutOfBoundsException, IllegalStateException, UnsupportedOperationException,
            NoSuchElementException {
        needHint(hint);
        needPlay();
        if (tree.isFull()) {
            throw new IllegalStateException("there are 80 nodes");
        }
        needNotOwned(hint);
        if ((shop.hintWords[hint] & ~tree.current().wordsOfPath()) == 0) {
            throw new UnsupportedOperationException("all its words are known");
        }
        int price = shop.priceAt(hint, tree.current(), tree);
        if (price > shop.purse) {
            throw new NoSuchElementException("not so many coins");
        }
        work.copy(tree.current().state);
        follow(new Command(Verb.BUY, hint, NONE));
        shop.purse -= price;
        shop.sold.add(new Sale(hint, tree.current(), price));
        return tree.here;
    }

    public boolean isOwned(int hint) throws IndexOutOfBoundsException, IllegalStateException {
        needHint(hint);
        needPlay();
        return shop.isOwnedAt(hint, tree.current());
    }

    public int read(int hint)
            throws IndexOutOfBoundsException, IllegalStateException, UnsupportedOperationException {
        needHint(hint);
        needPlay();
        Command command = new Command(Verb.READ, hint, NONE);
        needNodeFor(command);
        if (!shop.isOwnedAt(hint, tree.current())) {
            throw new UnsupportedOperationException("it is not owned");
        }
        work.copy(tree.current().state);
        follow(command);
        return tree.here;
    }

    public int coins() {
        return shop.purse;
    }

    public int earn(int coins) throws IllegalArgumentException {
        if (coins < 1 || coins > MAX_EARNED) {
            throw new IllegalArgumentException("the coins are out of range");
        }
        shop.purse += coins;
        shop.earned += coins;
        return shop.purse;
    }

    public int sales() {
        return shop.sold.size();
    }

    public int sale(int index, char what) throws IndexOutOfBoundsException, IllegalArgumentException {
        if (index < 0 || index >= shop.sold.size()) {
            throw new IndexOutOfBoundsException("no such sale");
        }
        Sale sale = shop.sold.get(index);
        switch (what) {
            case 'h':
                return sale.hint;
            case 'n':
                return sale.node.number;
            case 'c':
                return sale.coins;
            default:
                throw new IllegalArgumentException("no such thing");
        }
    }

    public int merge(int node)
            throws IndexOutOfBoundsException, IllegalStateException, UnsupportedOperationException {
        Node there = nodeOf(node);
        needPlay();
        work.copy(tree.current().state);
        int count = rules.pickUpAsIn(work, there.state);
        if (count == 0) {
            throw new UnsupportedOperationException("none can be taken");
        }
        Command command = new Command(Verb.MERGE, node, NONE);
        // Only here, since a merge that takes nothing is not done and needs no node.
        needNodeFor(command);
        follow(command);
        return count;
    }

    public int score() throws IllegalStateException {
        return rules.goalsReached(stateHere());
    }

    public int steps(int room) throws IndexOutOfBoundsException, IllegalStateException, NoSuchElementException {
        needRoom(room);
        int distance = rules.distanceTo(stateHere(), room);
        if (distance == NONE) {
            throw new NoSuchElementException("no way");
        }
        return distance;
    }

    public int line() throws IllegalStateException {
        needPlay();
        writeLine();
        return line.length();
    }

    public char signOf(int place) throws IllegalStateException, NoSuchElementException {
        needPlay();
        writeLine();
        if (place < 0 || place >= line.length()) {
            throw new NoSuchElementException("no such sign");
        }
        return line.charAt(place);
    }

    public long checksum() throws IllegalStateException {
        State state = stateHere();
        long sum = 7L * 31L + state.room;
        for (int i = 0; i < world.thingCount; i++) {
            sum = sum * 31L + state.places[i] + (state.on[i] ? 1000L : 0L) + 10000L * state.fuels[i];
        }
        return sum;
    }

    public float knownShare() throws IllegalStateException, ArithmeticException {
        needPlay();
        if (world.wordCount == 0) {
            throw new ArithmeticException("no words");
        }
        return (float) wordsKnown() / (float) world.wordCount;
    }

    public double meanPrice() throws NoSuchElementException {
        int count = shop.sold.size();
        if (count == 0) {
            throw new NoSuchElementException("none was sold");
        }
        return (double) shop.paid() / (double) count;
    }

    public boolean isSound() {
        for (int i = 0; i < tree.list.size(); i++) {
            if (!isSameAnew(tree.list.get(i))) {
                return false;
            }
        }
        return !shop.isAnySoldTwice() && shop.paid() + shop.purse == FIRST_COINS + shop.earned;
    }

    private void needWord(int word) {
        if (!world.hasWord(word)) {
            throw new IndexOutOfBoundsException("no such word");
        }
    }

    private void needRoom(int room) {
        if (!world.hasRoom(room)) {
            throw new IndexOutOfBoundsException("no such room");
        }
    }

    private void needThing(int thing) {
        if (!world.hasThing(thing)) {
            throw new IndexOutOfBoundsException("no such thing");
        }
    }

    private void needHint(int hint) {
        if (!shop.hasHint(hint)) {
            throw new IndexOutOfBoundsException("no such hint");
        }
    }

    private void needKind(int thing, char kind) {
        if (world.kinds[thing] != kind) {
            throw new UnsupportedOperationException("it is of another kind");
        }
    }

    private void needNoPlay() {
        if (!tree.isEmpty()) {
            throw new IllegalStateException("play has begun");
        }
    }

    private void needPlay() {
        if (tree.isEmpty()) {
            throw new IllegalStateException("play has not begun");
        }
    }

    private void needNodeFor(Command command) {
        if (tree.isFull() && tree.childBy(command) == NONE) {
            throw new IllegalStateException("there are 80 nodes");
        }
    }

    private void needNotOwned(int hint) {
        if (shop.isOwnedAt(hint, tree.current())) {
            throw new UnsupportedOperationException("it is owned");
        }
    }

    private int exitIn(int room, char direction) {
        int index = DIRECTIONS.indexOf(direction);
        if (index < 0) {
            throw new IllegalArgumentException("no such direction");
        }
        return room * WAYS + index;
    }

    private Node nodeOf(int number) {
        if (!tree.has(number)) {
            throw new IndexOutOfBoundsException("no such node");
        }
        return tree.list.get(number);
    }

    private State stateHere() {
        needPlay();
        return tree.current().state;
    }

    private int wordsKnown() {
        return Long.bitCount(tree.current().wordsOfPath());
    }

    /** Returns the command that is typed, or null if it is none. */
    private Command understood() {
        int parts = typed.divide();
        for (int i = 0; i < VERBS.length; i++) {
            Verb verb = VERBS[i];
            if (parts > 0 && verb.parts == parts && typed.isPart(0, verb.text)) {
                return completed(verb);
            }
        }
        return null;
    }

    private Command completed(Verb verb) {
        if (verb == Verb.GO) {
            int direction = DIRECTIONS.indexOf(typed.onlySign(1));
            return direction < 0 ? null : new Command(verb, direction, NONE);
        }
        if (verb == Verb.PUT && !typed.isPart(2, "in")) {
            return null;
        }
        int first = verb.nouns > 0 ? world.wordOf(typed.lettersOfPart(1)) : NONE;
        int second = verb.nouns > 1 ? world.wordOf(typed.lettersOfPart(3)) : NONE;
        return new Command(verb, first, second);
    }

    /** Tries out a typed command; returns what comes of it. */
    private char tried(Command command) {
        if (!usesKnownWords(command, tree.current())) {
            return NOT_KNOWN;
        }
        work.copy(tree.current().state);
        return rules.perform(work, command) ? DONE : NOT_POSSIBLE;
    }

    private static boolean usesKnownWords(Command command, Node node) {
        long words = node.wordsOfPath();
        int nouns = command.verb.nouns;
        return (nouns < 1 || includes(words, command.first)) && (nouns < 2 || includes(words, command.second));
    }

    /** Goes to the child to which a command leads that was tried out. */
    private void follow(Command command) {
        int child = tree.childBy(command);
        if (child == NONE) {
            rules.burn(work);
            child = tree.add(command, work, rules.wordsShown(work) | wordsBeside(command)).number;
        }
        tree.here = child;
    }

    /** Returns what a command shows beside what is shown anyway. */
    private long wordsBeside(Command command) {
        switch (command.verb) {
            case LOOK_AT:
                int thing = world.thingOf(command.first);
                return thing == NONE ? 0 : world.thingWords[thing];
            case BUY:
            case READ:
                return shop.hintWords[command.first];
            default:
                return 0;
        }
    }

    private void writeLine() {
        line.setLength(0);
        Node node = tree.current();
        writeCommand(node.command);
        line.append(':');
        for (int i = 0; i < world.thingCount; i++) {
            if (node.state.places[i] == CARRIED) {
                writeWord(world.nouns[i]);
            }
        }
    }

    private void writeCommand(Command command) {
        line.append(command.verb.text);
        switch (command.verb) {
            case START:
            case LOOK:
            case WAIT:
                break;
            case GO:
                line.append(' ').append(DIRECTIONS.charAt(command.first));
                break;
            case BUY:
            case READ:
            case MERGE:
                line.append(' ').append(command.first);
                break;
            case PUT:
                writeWord(command.first);
                line.append(" in");
                writeWord(command.second);
                break;
            default:
                writeWord(command.first);
                break;
        }
    }

    /** Writes a word with a blank ahead. */
    private void writeWord(int word) {
        line.append(' ');
        for (int i = MAX_LETTERS - 1; i >= 0; i--) {
            int letter = (int) (world.letters[word] >> (i * LETTER_BITS)) & LETTER_MASK;
            if (letter != 0) {
                line.append((char) ('a' + letter - 1));
            }
        }
    }

    /** Returns whether a node's command, done anew with known words, makes its state. */
    private boolean isSameAnew(Node node) {
        if (node.parent == null) {
            rules.setUp(work, node.command.first);
            return work.isLike(node.state);
        }
        work.copy(node.parent.state);
        if (!usesKnownWords(node.command, node.parent) || !canDoAnew(node.command)) {
            return false;
        }
        rules.burn(work);
        return work.isLike(node.state);
    }

    private boolean canDoAnew(Command command) {
        switch (command.verb) {
            case BUY:
            case READ:
                return true;
            case MERGE:
                return tree.has(command.first) && rules.pickUpAsIn(work, tree.list.get(command.first).state) > 0;
            default:
                return rules.perform(work, command);
        }
    }
}
