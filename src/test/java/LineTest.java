import static java.lang.Integer.MAX_VALUE;
import static java.lang.Integer.MIN_VALUE;

/** Promises 50 and 51: the line of play. */
public final class LineTest {

    private static final Class<?> STATE = IllegalStateException.class;
    private static final Class<?> NO_SUCH = java.util.NoSuchElementException.class;

    public static void main(String[] args) {
        Lorewick x = CommandTest.house();
        Check.refused(50, "not begun", STATE, () -> x.line());
        Check.refused(51, "not begun", STATE, () -> x.signOf(0));
        x.hint(1);
        x.teach(0, 8);
        x.begin(0);
        Check.due(51, "without asking for the length", 't', () -> x.signOf(1));
        due(x, "start:");
        for (int bad : new int[] {-1, 6, MAX_VALUE, MIN_VALUE}) {
            Check.refused(51, "place " + bad, NO_SUCH, () -> x.signOf(bad));
        }
        says(x, "look", "look:");
        says(x, "take key", "take key: key");
        says(x, "take lamp", "take lamp: lamp key");
        says(x, "wait", "wait: lamp key");
        says(x, "take cup", "wait: lamp key");
        says(x, "open box", "open box: lamp key");
        says(x, "take box", "take box: lamp box key");
        says(x, "put key in box", "put key in box: lamp box");
        says(x, "close box", "close box: lamp box");
        says(x, "drop box", "drop box: lamp");
        says(x, "light lamp", "light lamp: lamp");
        says(x, "douse lamp", "douse lamp: lamp");
        says(x, "look lamp", "look lamp: lamp");
        for (String direction : "n,s,d".split(",")) {
            says(x, "go " + direction, "go " + direction + ": lamp");
        }
        x.buy(0);
        due(x, "buy 0: lamp");
        x.undo();
        due(x, "go d: lamp");
        x.read(0);
        due(x, "read 0: lamp");
        x.undo();
        says(x, "drop lamp", "drop lamp:");
        x.merge(13);
        due(x, "merge 13: lamp");
        long length = x.line();
        for (int bad : new int[] {-1, (int) length, MAX_VALUE, MIN_VALUE}) {
            Check.refused(51, "place " + bad, NO_SUCH, () -> x.signOf(bad));
        }
        longest();
        Check.end();
    }

    private static void says(Lorewick x, String text, String want) {
        Check.say(x, text);
        due(x, want);
    }

    private static void due(Lorewick x, String want) {
        Check.due(50, "length of '" + want + "'", want.length(), () -> x.line());
        Check.due(51, "line", want, () -> Check.line(x));
    }

    /** Words of 8 letters, 12 things, and a hint with two digits. */
    private static void longest() {
        Lorewick x = new Lorewick();
        x.room(false);
        StringBuilder nouns = new StringBuilder(":");
        for (int i = 0; i < 12; i++) {
            String text = "zzzazzz" + (char) ('a' + i);
            Check.word(x, text);
            x.thing(i, 0, 1, i == 0 ? 'b' : 'p');
            x.hint(1);
            nouns.append(' ').append(text);
        }
        Check.word(x, "last");
        x.teach(11, 12);
        x.begin(0);
        x.buy(11);
        due(x, "buy 11:");
        for (int i = 0; i < 12; i++) {
            Check.say(x, "take zzzazzz" + (char) ('a' + i));
        }
        due(x, "take zzzazzzl" + nouns);
        Check.sayAll(x, "open zzzazzza,put zzzazzzb in zzzazzza");
        due(x, "put zzzazzzb in zzzazzza" + nouns.toString().replace(" zzzazzzb", ""));
    }
}
