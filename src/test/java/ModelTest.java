import java.lang.reflect.InvocationTargetException;
import java.lang.reflect.Method;
import java.util.ArrayList;
import java.util.Comparator;
import java.util.List;

/** All promises: long runs of calls, each of which Lorewick and the Model must answer alike. */
public final class ModelTest {

    private static final int RUNS = 1500;
    // What stands behind these in a run keeps it within the 512 calls that are promised.
    private static final int CALLS = 440;
    private static final String[] LONG_NOUNS = {"lamp", "box", "key", "a", "in", "take", "elephant", "cup", "case", "pin",
        "torch", "gem", "zzzzzzzz", "owl", "fern", "moss"};
    private static final String[] SHORT_NOUNS = {"a", "b", "c", "d", "e", "f", "g", "in", "i", "j", "k", "l", "m", "n", "o", "p"};
    private static final String[] VERBS = {"take", "take", "take", "drop", "open", "close", "light", "douse", "look"};

    private final Lorewick real = new Lorewick();
    private final Model model = new Model();
    private final List<String> told = new ArrayList<>();
    private final int run;
    private long seed;
    private int calls = 0;
    private final String[] nouns;
    private int words;
    private int rooms;
    private int things;

    private ModelTest(int run) {
        this.run = run;
        this.nouns = run % 4 == 0 ? LONG_NOUNS : SHORT_NOUNS;
        this.seed = run * 7919L + 17L;
    }

    public static void main(String[] args) {
        int runs = args.length > 0 ? Integer.parseInt(args[0]) : RUNS;
        for (int i = 0; i < runs; i++) {
            new ModelTest(i).play();
        }
        Check.end();
    }

    /** Returns a number from 0 to below the bound, the same in each run of the program. */
    private int any(int bound) {
        seed = seed * 6364136223846793005L + 1442695040888963407L;
        return (int) ((seed >>> 33) % bound);
    }

    private boolean oneIn(int many) {
        return any(many) == 0;
    }

    private void play() {
        tell();
        if (oneIn(20)) {
            callSomething();
        }
        call("begin", any(oneIn(20) ? 13 : rooms));
        while (calls < CALLS) {
            step();
        }
        for (Method method : methods()) {
            if (method.getParameterCount() == 0 && !"clear word say undo name jump".contains(method.getName())) {
                call(method.getName());
            }
        }
    }

    private void type(String text) {
        for (char sign : text.toCharArray()) {
            call("type", sign);
        }
    }

    private void tell() {
        words = 4 + any(nouns.length - 4);
        for (int i = 0; i < words; i++) {
            type(nouns[i]);
            call("word");
        }
        rooms = 1 + any(4);
        for (int i = 0; i < rooms; i++) {
            call("room", oneIn(3));
        }
        things = oneIn(30) ? 0 : 2 + any(Math.min(11, words - 2));
        int heaviest = oneIn(3) ? 9 : 4;
        for (int i = 0; i < things; i++) {
            call("thing", oneIn(20) ? any(words) : i, any(rooms), 1 + any(heaviest), "plbbl".charAt(any(5)));
        }
        for (int i = any(16); i > 0; i--) {
            call("exit", any(rooms), "neswud".charAt(any(6)), any(rooms));
        }
        for (int i = any(7); i > 0; i--) {
            tellMore();
        }
    }

    private void tellMore() {
        call("show", any(rooms), any(words));
        call("tell", any(things + 1), any(words));
        call("fuel", any(things + 1), any(12));
        call("goal", any(things + 1), any(rooms));
        call("lock", any(rooms), "neswud".charAt(any(6)), any(things + 1));
        call("hint", 1 + any(20));
        call("teach", any(3), any(words));
        call("teach", any(9), any(words));
    }

    private void step() {
        switch (any(20)) {
            case 0, 1, 2, 3, 4, 5, 6, 7, 8 -> sayOneOf(12);
            case 9, 10 -> sayOneOf(1);
            case 11, 12 -> move();
            case 13, 14 -> trade();
            case 15, 16 -> mergeWithOneOf(20);
            case 17 -> sayNonsense();
            default -> callSomething();
        }
        watch();
    }

    /** Calls what tells much of the state. */
    private void watch() {
        call("node");
        call("checksum");
        if (oneIn(6)) {
            call("isSound");
            call("line");
            call("signOf", any(30));
        }
        for (int i = any(3); i > 0; i--) {
            watchMore();
        }
    }

    private void watchMore() {
        switch (any(12)) {
            case 0 -> call("steps", any(rooms));
            case 1 -> call("place", any(things + 1));
            case 2 -> call("isOpen", any(things + 1));
            case 3 -> call("lit", any(things + 1));
            case 4 -> call("isKnown", any(words));
            case 5 -> call("learnt", any(words));
            case 6 -> call("posting", any(words), any(12));
            case 7 -> call("postings", any(words));
            case 8 -> call("rare", any(words));
            case 9 -> call("common", any(20), any(20));
            case 10 -> call("sale", any(3), "hnc".charAt(any(3)));
            default -> call(new String[] {"isBright", "weight", "score", "known", "knownShare", "meanPrice"}[any(6)]);
        }
    }

    private String noun() {
        return nouns[any(oneIn(5) ? nouns.length : Math.max(things, 1))];
    }

    private String command() {
        switch (any(8)) {
            case 0, 1:
                return "go " + "neswud".charAt(any(6));
            case 2, 3:
                return "put " + noun() + " in " + noun();
            case 4:
                return oneIn(2) ? "look" : "wait";
            default:
                return VERBS[any(VERBS.length)] + " " + noun();
        }
    }

    /** Says the first of some commands that can be done, or the last. */
    private void sayOneOf(int many) {
        String text = command();
        for (int i = 1; i < many && model.wouldAnswer(text) != 'o'; i++) {
            text = command();
        }
        type(text);
        call("say");
    }

    private void mergeWithOneOf(int many) {
        int node = any(30);
        for (int i = 1; i < many && model.wouldTake(node) == 0; i++) {
            node = any(30);
        }
        call("merge", node);
    }

    private void sayNonsense() {
        StringBuilder text = new StringBuilder();
        String[] parts = {"take", "put", "in", "go", "n", "look", "", noun(), noun(), "buy"};
        for (int i = any(6); i > 0; i--) {
            text.append(oneIn(9) ? "" : " ").append(parts[any(parts.length)]);
        }
        type(text.length() > 0 && oneIn(2) ? text.substring(1) : text.toString());
        call("say");
    }

    private void move() {
        switch (any(6)) {
            case 0, 1 -> {
                call("undo");
                call("redo", any(2));
            }
            case 2, 3 -> {
                type(nouns[any(4)]);
                call(oneIn(2) ? "name" : "jump");
            }
            default -> {
                for (int i = any(9); i > 0; i--) {
                    call("undo");
                }
            }
        }
        call("clear");
    }

    private void trade() {
        int hint = any(6);
        call("isOwned", hint);
        call("price", hint);
        call(oneIn(3) ? "read" : "buy", hint);
        if (oneIn(3)) {
            call("earn", 1 + any(99));
        }
        if (oneIn(3)) {
            call("read", any(3));
        }
        for (int i = oneIn(12) ? 60 : 0; i > 0; i--) {
            call("read", hint);
        }
    }

    private static List<Method> methods() {
        List<Method> methods = new ArrayList<>();
        for (Method method : Lorewick.class.getDeclaredMethods()) {
            if (java.lang.reflect.Modifier.isPublic(method.getModifiers())) {
                methods.add(method);
            }
        }
        methods.sort(Comparator.comparing(Method::getName));
        return methods;
    }

    private void callSomething() {
        List<Method> methods = methods();
        Method method = methods.get(any(methods.size()));
        Object[] values = new Object[method.getParameterCount()];
        for (int i = 0; i < values.length; i++) {
            Class<?> type = method.getParameterTypes()[i];
            values[i] = type == int.class ? (Object) anyInt() : type == char.class ? (Object) anyChar() : (Object) oneIn(2);
        }
        call(method.getName(), values);
    }

    private int anyInt() {
        int[] odd = {-1, Integer.MAX_VALUE, Integer.MIN_VALUE, 100, 12, 40, 80};
        return oneIn(9) ? odd[any(odd.length)] : any(oneIn(2) ? 6 : 40);
    }

    private char anyChar() {
        String signs = "neswud plbhc az{`A?0";
        return oneIn(20) ? (char) any(65536) : signs.charAt(any(signs.length()));
    }

    private void call(String name, Object... values) {
        if (calls == 512) {
            return;
        }
        calls++;
        told.add(name + List.of(values));
        if (told.size() > 60) {
            told.remove(0);
        }
        String want = answer(model, name, values);
        String got = answer(real, name, values);
        if (!want.equals(got)) {
            System.out.println("run " + run + ": " + told);
        }
        Check.due(0, "run " + run + ", call " + calls + ", " + name, want, () -> got);
    }

    private static String answer(Object object, String name, Object... values) {
        try {
            for (Method method : object.getClass().getDeclaredMethods()) {
                if (method.getName().equals(name) && java.lang.reflect.Modifier.isPublic(method.getModifiers())) {
                    return String.valueOf(method.invoke(object, values));
                }
            }
            return "no method";
        } catch (InvocationTargetException e) {
            return Check.textOf(e.getCause());
        } catch (IllegalAccessException e) {
            return "no access";
        }
    }
}
