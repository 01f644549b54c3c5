import java.lang.reflect.Field;
import java.util.List;

/** Promise 55: isSound is true in play, and false of an object that was spoilt from outside. */
public final class SoundTest {

    private interface Spoiling {
        void of(Lorewick x) throws ReflectiveOperationException;
    }

    public static void main(String[] args) throws ReflectiveOperationException {
        sound();
        spoilt("coins", x -> add(get(x, "shop"), "purse", 1));
        spoilt("earned coins", x -> add(get(x, "shop"), "earned", 1));
        spoilt("the room at the node 0", x -> add(state(x, 0), "room", 1));
        spoilt("the room at the last node", x -> add(state(x, 6), "room", 1));
        spoilt("a place", x -> ((int[]) get(state(x, 2), "places"))[2] = 0);
        spoilt("fuel", x -> ((int[]) get(state(x, 3), "fuels"))[0]++);
        spoilt("a lamp lit", x -> ((boolean[]) get(state(x, 1), "on"))[0] = true);
        spoilt("a box opened at the node 0", x -> ((boolean[]) get(state(x, 0), "on"))[1] = true);
        spoilt("a word that was not shown", x -> unlearn(x));
        spoilt("a hint sold twice on a path", x -> sellTwice(x));
        commandsThatChangeNothing();
        Lorewick fresh = CommandTest.begun();
        Check.due(55, "begun", true, () -> fresh.isSound());
        add(state(fresh, 0), "room", 1);
        Check.due(55, "spoilt at the node 0, which is alone", false, () -> fresh.isSound());
        Check.end();
    }

    /** Nodes: 1 take lamp, 2 take key, 3 light lamp, 4 buy 0, 5 drop lamp, 6 merge 1, 7 read 0. */
    private static Lorewick played() {
        Lorewick x = CommandTest.house();
        x.hint(3);
        x.teach(0, 7);
        x.earn(5);
        x.begin(0);
        Check.sayAll(x, "take lamp,take key,light lamp");
        x.buy(0);
        Check.say(x, "drop lamp");
        x.merge(1);
        x.read(0);
        return x;
    }

    private static void sound() {
        Lorewick x = new Lorewick();
        Check.due(55, "at first", true, () -> x.isSound());
        x.earn(9);
        Check.due(55, "earned", true, () -> x.isSound());
        Lorewick y = played();
        Check.due(55, "played", true, () -> y.isSound());
        Check.due(55, "asked again", true, () -> y.isSound());
        y.undo();
        y.undo();
        y.undo();
        y.undo();
        Check.say(y, "wait");
        y.buy(0);
        Check.due(55, "sold on two branches", true, () -> y.isSound());
        Check.say(y, "drop owl");
        Check.due(55, "refused", true, () -> y.isSound());
    }

    private static void spoilt(String what, Spoiling spoiling) throws ReflectiveOperationException {
        Lorewick x = played();
        spoiling.of(x);
        Check.due(55, "spoilt: " + what, false, () -> x.isSound());
    }

    /** What was not known, or cannot be done, is told also where the state would be the same. */
    private static void commandsThatChangeNothing() throws ReflectiveOperationException {
        Lorewick x = CommandTest.begun();
        Check.say(x, "look key");
        unlearn(x);
        Check.due(55, "looked at what was not known", false, () -> x.isSound());
        Lorewick y = CommandTest.begun();
        Check.sayAll(y, "take key,wait");
        Check.due(55, "ahead of it", true, () -> y.isSound());
        field(node(y, 2), "command").set(node(y, 2), get(node(y, 1), "command"));
        Check.due(55, "taken twice", false, () -> y.isSound());
        Lorewick z = CommandTest.begun();
        Check.say(z, "take key");
        z.undo();
        z.merge(1);
        Check.say(z, "wait");
        Check.due(55, "ahead of this", true, () -> z.isSound());
        field(node(z, 3), "command").set(node(z, 3), get(node(z, 2), "command"));
        Check.due(55, "merged twice", false, () -> z.isSound());
    }

    private static void unlearn(Lorewick x) throws ReflectiveOperationException {
        for (int i = 0; i < 2; i++) {
            field(node(x, i), "shown").setLong(node(x, i), 0L);
        }
    }

    @SuppressWarnings("unchecked")
    private static void sellTwice(Lorewick x) throws ReflectiveOperationException {
        Object shop = get(x, "shop");
        List<Object> sold = (List<Object>) get(shop, "sold");
        sold.add(sold.get(0));
        add(shop, "purse", -(int) get(sold.get(0), "coins"));
    }

    private static Object node(Lorewick x, int number) throws ReflectiveOperationException {
        return ((List<?>) get(get(x, "tree"), "list")).get(number);
    }

    private static Object state(Lorewick x, int number) throws ReflectiveOperationException {
        return get(node(x, number), "state");
    }

    private static Field field(Object owner, String name) throws ReflectiveOperationException {
        Field field = owner.getClass().getDeclaredField(name);
        field.setAccessible(true);
        return field;
    }

    private static Object get(Object owner, String name) throws ReflectiveOperationException {
        return field(owner, name).get(owner);
    }

    private static void add(Object owner, String name, int more) throws ReflectiveOperationException {
        Field field = field(owner, name);
        field.setInt(owner, field.getInt(owner) + more);
    }
}
