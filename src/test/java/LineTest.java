import static java.lang.Integer.MAX_VALUE;
import static java.lang.Integer.MIN_VALUE;

/** Promises 50 and 51: the line of play. */
public final class LineTest {

    private static final Class<?> STATE = IllegalStateException.class;
    private static final Class<?> NO_SUCH = java.util.NoSuchElementException.class;

    public static void main(String[] args) {
        Lorewick x = CommandTest.house();
        Check.refused(50, "not begun", STATE, () -> x.line());
        Check.refused(51, "not begun", STATE, () -> x.signOf(0));
        x.begin(0);
        Check.due(51, "without asking for the length", 't', () -> x.signOf(1));
        due(x, "start:");
        for (int bad : new int[] {-1, 6, MAX_VALUE, MIN_VALUE}) {
            Check.refused(51, "place " + bad, NO_SUCH, () -> x.signOf(bad));
        }
        says(x, "look", "look:");
        says(x, "take key", "take key: key");
        says(x, "take lamp", "take lamp: lamp key");
        says(x, "wait", "wait: lamp key");
        says(x, "take cup", "wait: lamp key");
        says(x, "open box", "open box: lamp key");
        says(x, "take box", "take box: lamp box key");
        says(x, "put key in box", "put key in box: lamp box");
        says(x, "close box", "close box: lamp box");
        says(x, "drop box", "drop box: lamp");
        says(x, "light lamp", "light lamp: lamp");
        says(x, "douse lamp", "douse lamp: lamp");
        says(x, "look lamp", "look lamp: lamp");
        for (String direction : "n,s,d".split(",")) {
            says(x, "go " + direction, "go " + direction + ": lamp");
        }
        numbered();
        longest();
        Check.end();
    }

    /** What is bought, read or merged is told with its number. */
    private static void numbered() {
        Lorewick x = CommandTest.house();
        x.hint(1);
        x.teach(0, 8);
        x.begin(0);
        says(x, "take lamp", "take lamp: lamp");
        x.buy(0);
        due(x, "buy 0: lamp");
        x.undo();
        due(x, "take lamp: lamp");
        x.read(0);
        due(x, "read 0: lamp");
        x.undo();
        says(x, "drop lamp", "drop lamp:");
        x.merge(1);
        due(x, "merge 1: lamp");
        long length = x.line();
        for (int bad : new int[] {-1, (int) length, MAX_VALUE, MIN_VALUE}) {
            Check.refused(51, "place " + bad, NO_SUCH, () -> x.signOf(bad));
        }
    }

    private static void says(Lorewick x, String text, String want) {
        Check.say(x, text);
        due(x, want);
    }

    private static void due(Lorewick x, String want) {
        Check.due(50, "length of '" + want + "'", want.length(), () -> x.line());
        Check.due(51, "line", want, () -> Check.line(x));
    }

    /** Words of 8 letters, 12 things, and a hint with two digits. */
    private static void longest() {
        Lorewick x = longNouns();
        x.buy(11);
        due(x, "buy 11:");
        StringBuilder nouns = new StringBuilder(":");
        for (int i = 0; i < 12; i++) {
            String noun = "zzzazzz" + (char) ('a' + i);
            Check.say(x, "take " + noun);
            nouns.append(' ').append(noun);
        }
        due(x, "take zzzazzzl" + nouns);
        Lorewick y = longNouns();
        Check.sayAll(y, "take zzzazzzb,take zzzazzzl,open zzzazzza");
        due(y, "open zzzazzza: zzzazzzb zzzazzzl");
        Check.say(y, "put zzzazzzb in zzzazzza");
        due(y, "put zzzazzzb in zzzazzza: zzzazzzl");
    }

    private static Lorewick longNouns() {
        Lorewick x = new Lorewick();
        x.room(false);
        for (int i = 0; i < 12; i++) {
            Check.word(x, "zzzazzz" + (char) ('a' + i));
            x.thing(i, 0, 1, i == 0 ? 'b' : 'p');
            x.hint(1);
        }
        Check.word(x, "last");
        x.teach(11, 12);
        x.begin(0);
        return x;
    }
}
