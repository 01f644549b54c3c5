import java.util.ArrayList;
import java.util.HashMap;
import java.util.HashSet;
import java.util.List;
import java.util.Map;
import java.util.NoSuchElementException;
import java.util.Set;
import java.util.TreeSet;

/** The document told once more, as plainly as the Java library allows, to compare Lorewick with. */
public final class Model {

    private static final class Room {
        boolean dark;
        final Set<Integer> words = new HashSet<>();
        final Map<Character, Integer> exits = new HashMap<>();
        final Map<Character, Integer> locks = new HashMap<>();
    }

    private record Thing(int word, int room, int weight, char kind, Set<Integer> words) {
    }

    private record Goal(int thing, int room) {
    }

    private record Hint(int base, Set<Integer> words) {
    }

    private record Sale(int hint, int node, int coins) {
    }

    private record Node(int parent, String command, State state, Set<Integer> shown) {
    }

    /** Where is "carried", "room 3" or "box 2". */
    private static final class State {
        int room;
        final List<String> where = new ArrayList<>();
        final Set<Integer> open = new HashSet<>();
        final Set<Integer> burning = new HashSet<>();
        final Map<Integer, Integer> fuel = new HashMap<>();

        State again() {
            State copy = new State();
            copy.room = room;
            copy.where.addAll(where);
            copy.open.addAll(open);
            copy.burning.addAll(burning);
            copy.fuel.putAll(fuel);
            return copy;
        }
    }

    private String typed = "";
    private final List<String> words = new ArrayList<>();
    private final List<Room> rooms = new ArrayList<>();
    private final List<Thing> things = new ArrayList<>();
    private final Map<Integer, Integer> fuels = new HashMap<>();
    private final List<Goal> goals = new ArrayList<>();
    private final List<Hint> hints = new ArrayList<>();
    private final List<Sale> sold = new ArrayList<>();
    private final List<Node> tree = new ArrayList<>();
    private final Map<Integer, String> names = new HashMap<>();
    private int here;
    private int purse = 100;

    private static <T> void index(int index, List<T> list) {
        if (index < 0 || index >= list.size()) {
            throw new IndexOutOfBoundsException();
        }
    }

    private static void argument(boolean isRight) {
        if (!isRight) {
            throw new IllegalArgumentException();
        }
    }

    private static void state(boolean isRight) {
        if (!isRight) {
            throw new IllegalStateException();
        }
    }

    private static void supported(boolean isRight) {
        if (!isRight) {
            throw new UnsupportedOperationException();
        }
    }

    private static void element(boolean isThere) {
        if (!isThere) {
            throw new NoSuchElementException();
        }
    }

    private boolean begun() {
        return !tree.isEmpty();
    }

    public int type(char sign) {
        argument("abcdefghijklmnopqrstuvwxyz ".indexOf(sign) >= 0);
        state(typed.length() < 30);
        typed += sign;
        return typed.length();
    }

    public int clear() {
        int length = typed.length();
        typed = "";
        return length;
    }

    public int word() {
        argument(typed.matches("[a-z]{1,8}"));
        supported(!words.contains(typed));
        state(words.size() < 40);
        words.add(typed);
        typed = "";
        return words.size() - 1;
    }

    public int room(boolean isDark) {
        state(rooms.size() < 12 && !begun());
        Room room = new Room();
        room.dark = isDark;
        rooms.add(room);
        return rooms.size() - 1;
    }

    public int show(int room, int word) {
        index(room, rooms);
        index(word, words);
        state(!begun());
        rooms.get(room).words.add(word);
        return rooms.get(room).words.size();
    }

    public int exit(int room, char direction, int other) {
        index(room, rooms);
        index(other, rooms);
        argument("neswud".indexOf(direction) >= 0);
        state(!begun());
        rooms.get(room).locks.remove(direction);
        Integer before = rooms.get(room).exits.put(direction, other);
        return before == null ? -1 : before;
    }

    public int lock(int room, char direction, int thing) {
        index(room, rooms);
        index(thing, things);
        argument("neswud".indexOf(direction) >= 0);
        supported(rooms.get(room).exits.containsKey(direction));
        state(!begun());
        Integer before = rooms.get(room).locks.put(direction, thing);
        return before == null ? -1 : before;
    }

    public int thing(int word, int room, int weight, char kind) {
        index(word, words);
        index(room, rooms);
        argument(weight >= 1 && weight <= 9 && "plb".indexOf(kind) >= 0);
        supported(thingOf(words.get(word)) < 0);
        state(things.size() < 12 && !begun());
        things.add(new Thing(word, room, weight, kind, new HashSet<>()));
        if (kind == 'l') {
            fuels.put(things.size() - 1, 10);
        }
        return things.size() - 1;
    }

    public int fuel(int thing, int turns) {
        index(thing, things);
        argument(turns >= 0 && turns <= 99);
        supported(things.get(thing).kind == 'l');
        state(!begun());
        return fuels.put(thing, turns);
    }

    public int tell(int thing, int word) {
        index(thing, things);
        index(word, words);
        state(!begun());
        things.get(thing).words.add(word);
        return things.get(thing).words.size();
    }

    public int goal(int thing, int room) {
        index(thing, things);
        index(room, rooms);
        state(goals.size() < 6 && !begun());
        goals.add(new Goal(thing, room));
        return goals.size();
    }

    public int hint(int base) {
        argument(base >= 1 && base <= 50);
        state(hints.size() < 12);
        hints.add(new Hint(base, new HashSet<>()));
        return hints.size() - 1;
    }

    public int teach(int hint, int word) {
        index(hint, hints);
        index(word, words);
        Set<Integer> taught = hints.get(hint).words;
        supported(!taught.contains(word) && sold.stream().noneMatch(sale -> sale.hint == hint));
        state(taught.size() < 6);
        taught.add(word);
        return taught.size();
    }

    public int begin(int room) {
        index(room, rooms);
        state(!begun());
        State state = new State();
        state.room = room;
        for (Thing thing : things) {
            state.where.add("room " + thing.room);
        }
        state.fuel.putAll(fuels);
        tree.add(new Node(-1, "start", state, shownIn(state)));
        return knownAt(0).size();
    }

    private int thingOf(String noun) {
        for (int i = 0; i < things.size(); i++) {
            if (words.get(things.get(i).word).equals(noun)) {
                return i;
            }
        }
        return -1;
    }

    /** Where a thing is, or the open box that it is in. */
    private String whereSeen(State state, int thing) {
        String where = state.where.get(thing);
        if (where.startsWith("box ")) {
            int box = Integer.parseInt(where.substring(4));
            return state.open.contains(box) ? state.where.get(box) : "hidden";
        }
        return where;
    }

    private boolean atHand(State state, int thing) {
        String where = whereSeen(state, thing);
        return where.equals("carried") || where.equals("room " + state.room);
    }

    private boolean bright(State state) {
        return !rooms.get(state.room).dark || state.burning.stream().anyMatch(lamp -> atHand(state, lamp));
    }

    private boolean canName(State state, int thing) {
        return bright(state) ? atHand(state, thing) : whereSeen(state, thing).equals("carried");
    }

    private Set<Integer> shownIn(State state) {
        Set<Integer> shown = new TreeSet<>();
        if (bright(state)) {
            shown.addAll(rooms.get(state.room).words);
        }
        for (int i = 0; i < things.size(); i++) {
            if (canName(state, i)) {
                shown.add(things.get(i).word);
            }
        }
        return shown;
    }

    private int load(State state) {
        int load = 0;
        for (int i = 0; i < things.size(); i++) {
            String where = state.where.get(i);
            String outside = where.startsWith("box ") ? state.where.get(Integer.parseInt(where.substring(4))) : where;
            load += outside.equals("carried") ? things.get(i).weight : 0;
        }
        return load;
    }

    private Set<Integer> knownAt(int node) {
        Set<Integer> known = new TreeSet<>();
        for (int at : pathOf(node)) {
            known.addAll(tree.get(at).shown);
        }
        return known;
    }

    private List<Integer> pathOf(int node) {
        List<Integer> path = new ArrayList<>();
        for (int at = node; at >= 0; at = tree.get(at).parent) {
            path.add(0, at);
        }
        return path;
    }

    private State stateHere() {
        return tree.get(here).state;
    }

    /** Returns '?', 'w', 'n' or 'o', and with 'o' does it to the state. */
    private char attempt(String command, State state, Set<Integer> known) {
        if (command.equals("look") || command.equals("wait")) {
            return 'o';
        }
        if (command.matches("go [neswud]")) {
            return go(command.charAt(3), state) ? 'o' : 'n';
        }
        List<String> nouns = new ArrayList<>();
        String[] parts = command.split(" ");
        if (command.matches("(take|drop|open|close|light|douse|look) [a-z]+")) {
            nouns.add(parts[1]);
        } else if (command.matches("put [a-z]+ in [a-z]+")) {
            nouns.add(parts[1]);
            nouns.add(parts[3]);
        } else {
            return '?';
        }
        for (String noun : nouns) {
            if (!words.contains(noun) || !known.contains(words.indexOf(noun))) {
                return 'w';
            }
        }
        for (String noun : nouns) {
            if (thingOf(noun) < 0 || !canName(state, thingOf(noun))) {
                return 'n';
            }
        }
        boolean isDone = nouns.size() == 2
            ? put(thingOf(nouns.get(0)), thingOf(nouns.get(1)), state)
            : handle(parts[0], thingOf(nouns.get(0)), state);
        return isDone ? 'o' : 'n';
    }

    private boolean isOpenTo(int room, char direction, State state) {
        Integer lock = rooms.get(room).locks.get(direction);
        return rooms.get(room).exits.containsKey(direction) && (lock == null || state.where.get(lock).equals("carried"));
    }

    private boolean go(char direction, State state) {
        if (!isOpenTo(state.room, direction, state)) {
            return false;
        }
        state.room = rooms.get(state.room).exits.get(direction);
        return true;
    }

    private boolean handle(String verb, int thing, State state) {
        char kind = things.get(thing).kind;
        boolean isCarried = state.where.get(thing).equals("carried");
        switch (verb) {
            case "take":
                return !isCarried && take(thing, state);
            case "drop":
                if (isCarried) {
                    state.where.set(thing, "room " + state.room);
                }
                return isCarried;
            case "open":
                return kind == 'b' && state.open.add(thing);
            case "close":
                return kind == 'b' && state.open.remove(thing);
            case "light":
                return kind == 'l' && state.fuel.get(thing) > 0 && state.burning.add(thing);
            case "douse":
                return kind == 'l' && state.burning.remove(thing);
            default:
                return true;
        }
    }

    private boolean take(int thing, State state) {
        State then = state.again();
        then.where.set(thing, "carried");
        if (load(then) > 12) {
            return false;
        }
        state.where.set(thing, "carried");
        return true;
    }

    private boolean put(int thing, int box, State state) {
        long inside = state.where.stream().filter(("box " + box)::equals).count();
        boolean can = state.where.get(thing).equals("carried") && things.get(thing).kind != 'b'
            && things.get(box).kind == 'b' && state.open.contains(box) && inside < 3;
        if (can) {
            state.where.set(thing, "box " + box);
        }
        return can;
    }

    private void burn(State state) {
        for (int i = 0; i < things.size(); i++) {
            if (state.burning.contains(i)) {
                state.fuel.put(i, state.fuel.get(i) - 1);
                if (state.fuel.get(i) == 0) {
                    state.burning.remove(i);
                }
            }
        }
    }

    private int childBy(String command) {
        for (int i = 0; i < tree.size(); i++) {
            if (tree.get(i).parent == here && tree.get(i).command.equals(command)) {
                return i;
            }
        }
        return -1;
    }

    private void follow(String command, State then, Set<Integer> beside) {
        int child = childBy(command);
        if (child < 0) {
            burn(then);
            Set<Integer> shown = shownIn(then);
            shown.addAll(beside);
            child = tree.size();
            tree.add(new Node(here, command, then, shown));
        }
        here = child;
    }

    /** Returns what would come of a text, without saying it. */
    char wouldAnswer(String text) {
        return begun() ? attempt(text, stateHere().again(), knownAt(here)) : '?';
    }

    /** Returns how many things could be taken by merging with a node. */
    int wouldTake(int node) {
        return begun() && node < tree.size() ? takenAsIn(node, stateHere().again()) : 0;
    }

    public char say() {
        state(begun());
        State then = stateHere().again();
        char answer = attempt(typed, then, knownAt(here));
        if (answer == 'o') {
            state(tree.size() < 80 || childBy(typed) >= 0);
            boolean isLook = typed.startsWith("look ");
            follow(typed, then, isLook ? things.get(thingOf(typed.substring(5))).words : Set.of());
        }
        typed = "";
        return answer;
    }

    public int at() {
        state(begun());
        return stateHere().room;
    }

    private int placeIn(State state, int thing) {
        String where = state.where.get(thing);
        if (where.equals("carried")) {
            return 100;
        }
        return (where.startsWith("box ") ? 200 : 0) + Integer.parseInt(where.split(" ")[1]);
    }

    public int place(int thing) {
        index(thing, things);
        state(begun());
        return placeIn(stateHere(), thing);
    }

    public boolean isOpen(int thing) {
        index(thing, things);
        state(begun());
        supported(things.get(thing).kind == 'b');
        return stateHere().open.contains(thing);
    }

    public int lit(int thing) {
        index(thing, things);
        state(begun());
        supported(things.get(thing).kind == 'l');
        int fuel = stateHere().fuel.get(thing);
        return stateHere().burning.contains(thing) ? fuel : -(fuel + 1);
    }

    public boolean isBright() {
        state(begun());
        return bright(stateHere());
    }

    public int weight() {
        state(begun());
        return load(stateHere());
    }

    public int node() {
        state(begun());
        return here;
    }

    public int nodes() {
        state(begun());
        return tree.size();
    }

    public int parent(int node) {
        index(node, tree);
        element(node != 0);
        return tree.get(node).parent;
    }

    public int depth(int node) {
        index(node, tree);
        return pathOf(node).size() - 1;
    }

    private List<Integer> childrenOf(int node) {
        List<Integer> children = new ArrayList<>();
        for (int i = 0; i < tree.size(); i++) {
            if (tree.get(i).parent == node) {
                children.add(i);
            }
        }
        return children;
    }

    public int children(int node) {
        index(node, tree);
        return childrenOf(node).size();
    }

    public int common(int node, int other) {
        index(node, tree);
        index(other, tree);
        List<Integer> both = pathOf(node);
        both.retainAll(pathOf(other));
        return both.get(both.size() - 1);
    }

    public int undo() {
        state(begun());
        element(here != 0);
        here = tree.get(here).parent;
        return here;
    }

    public int redo(int index) {
        state(begun());
        List<Integer> children = childrenOf(here);
        element(index >= 0 && index < children.size());
        here = children.get(index);
        return here;
    }

    public int name() {
        state(begun());
        argument(typed.matches("[a-z]{1,8}"));
        supported(typed.equals(names.get(here)) || !names.containsValue(typed));
        names.put(here, typed);
        typed = "";
        return names.size();
    }

    public int jump() {
        state(begun());
        element(names.containsValue(typed));
        for (Map.Entry<Integer, String> entry : names.entrySet()) {
            if (entry.getValue().equals(typed)) {
                here = entry.getKey();
            }
        }
        typed = "";
        return here;
    }

    public boolean isKnown(int word) {
        index(word, words);
        state(begun());
        return knownAt(here).contains(word);
    }

    public int known() {
        state(begun());
        return knownAt(here).size();
    }

    public int learnt(int word) {
        index(word, words);
        state(begun());
        element(knownAt(here).contains(word));
        return pathOf(here).stream().filter(at -> tree.get(at).shown.contains(word)).findFirst().get();
    }

    private List<Integer> postingsOf(int word) {
        List<Integer> postings = new ArrayList<>();
        for (int i = 0; i < tree.size(); i++) {
            if (tree.get(i).shown.contains(word)) {
                postings.add(i);
            }
        }
        return postings;
    }

    public int postings(int word) {
        index(word, words);
        return postingsOf(word).size();
    }

    public int posting(int word, int index) {
        index(word, words);
        List<Integer> postings = postingsOf(word);
        element(index >= 0 && index < postings.size());
        return postings.get(index);
    }

    public int rare(int index) {
        state(begun());
        List<Integer> known = new ArrayList<>(knownAt(here));
        known.sort((one, other) -> postingsOf(one).size() - postingsOf(other).size());
        element(index >= 0 && index < known.size());
        return known.get(index);
    }

    private boolean ownedHere(int hint) {
        return sold.stream().anyMatch(sale -> sale.hint == hint
            && (pathOf(here).contains(sale.node) || pathOf(sale.node).contains(here)));
    }

    private int unknownOf(int hint) {
        Set<Integer> unknown = new HashSet<>(hints.get(hint).words);
        unknown.removeAll(knownAt(here));
        return unknown.size();
    }

    private int priceHere(int hint) {
        Set<Integer> wanted = hints.get(hint).words;
        long shown = tree.stream().filter(node -> node.shown.stream().anyMatch(wanted::contains)).count();
        float share = (float) shown / (float) tree.size();
        float times = hints.get(hint).base * unknownOf(hint);
        float twoLess = 2.0f - share;
        return (int) (times * twoLess);
    }

    public int price(int hint) {
        index(hint, hints);
        state(begun());
        supported(!ownedHere(hint));
        return priceHere(hint);
    }

    public int buy(int hint) {
        index(hint, hints);
        state(begun() && tree.size() < 80);
        supported(!ownedHere(hint) && unknownOf(hint) > 0);
        int price = priceHere(hint);
        element(price <= purse);
        purse -= price;
        sold.add(new Sale(hint, tree.size(), price));
        follow("buy " + hint, stateHere().again(), hints.get(hint).words);
        return here;
    }

    public boolean isOwned(int hint) {
        index(hint, hints);
        state(begun());
        return ownedHere(hint);
    }

    public int read(int hint) {
        index(hint, hints);
        state(begun() && (tree.size() < 80 || childBy("read " + hint) >= 0));
        supported(ownedHere(hint));
        follow("read " + hint, stateHere().again(), hints.get(hint).words);
        return here;
    }

    public int coins() {
        return purse;
    }

    public int earn(int coins) {
        argument(coins >= 1 && coins <= 99);
        purse += coins;
        return purse;
    }

    public int sales() {
        return sold.size();
    }

    public int sale(int index, char what) {
        index(index, sold);
        argument(what == 'h' || what == 'n' || what == 'c');
        Sale sale = sold.get(index);
        return what == 'h' ? sale.hint : what == 'n' ? sale.node : sale.coins;
    }

    public int merge(int node) {
        index(node, tree);
        state(begun());
        State then = stateHere().again();
        int count = takenAsIn(node, then);
        supported(count > 0);
        state(tree.size() < 80 || childBy("merge " + node) >= 0);
        follow("merge " + node, then, Set.of());
        return count;
    }

    private int takenAsIn(int node, State then) {
        int count = 0;
        for (int i = 0; i < things.size() && bright(stateHere()); i++) {
            boolean isThere = tree.get(node).state.where.get(i).equals("carried");
            if (isThere && then.where.get(i).equals("room " + then.room) && take(i, then)) {
                count++;
            }
        }
        return count;
    }

    public int score() {
        state(begun());
        int score = 0;
        for (Goal goal : goals) {
            score += stateHere().where.get(goal.thing).equals("room " + goal.room) ? 1 : 0;
        }
        return score;
    }

    public int steps(int room) {
        index(room, rooms);
        state(begun());
        Set<Integer> reached = new HashSet<>(Set.of(stateHere().room));
        for (int steps = 0; steps <= rooms.size(); steps++) {
            if (reached.contains(room)) {
                return steps;
            }
            for (int from : new ArrayList<>(reached)) {
                for (char direction : "neswud".toCharArray()) {
                    if (isOpenTo(from, direction, stateHere())) {
                        reached.add(rooms.get(from).exits.get(direction));
                    }
                }
            }
        }
        throw new NoSuchElementException();
    }

    private String lineHere() {
        StringBuilder line = new StringBuilder(tree.get(here).command + ":");
        for (int i = 0; i < things.size(); i++) {
            if (stateHere().where.get(i).equals("carried")) {
                line.append(' ').append(words.get(things.get(i).word));
            }
        }
        return line.toString();
    }

    public int line() {
        state(begun());
        return lineHere().length();
    }

    public char signOf(int place) {
        state(begun());
        element(place >= 0 && place < lineHere().length());
        return lineHere().charAt(place);
    }

    public long checksum() {
        state(begun());
        State state = stateHere();
        long sum = 7 * 31 + state.room;
        for (int i = 0; i < things.size(); i++) {
            boolean isOn = state.open.contains(i) || state.burning.contains(i);
            sum = 31 * sum + placeIn(state, i) + (isOn ? 1000 : 0) + 10000 * state.fuel.getOrDefault(i, 0);
        }
        return sum;
    }

    public float knownShare() {
        state(begun());
        if (words.isEmpty()) {
            throw new ArithmeticException();
        }
        return (float) known() / (float) words.size();
    }

    public double meanPrice() {
        element(!sold.isEmpty());
        return (double) sold.stream().mapToInt(Sale::coins).sum() / (double) sold.size();
    }

    public boolean isSound() {
        return true;
    }
}
