import java.io.IOException;
import java.lang.reflect.Method;
import java.lang.reflect.Modifier;
import java.nio.file.Files;
import java.nio.file.Path;
import java.util.List;
import java.util.Set;
import java.util.TreeSet;
import java.util.regex.Matcher;
import java.util.regex.Pattern;

/** README.md: its example answers as it says there, each of its lines stands here, and it names each method. */
public final class ReadmeTest {

    public static void main(String[] args) throws IOException {
        example();
        List<String> readme = Files.readAllLines(Path.of("README.md"));
        List<String> source = Files.readAllLines(Path.of("src/test/java/ReadmeTest.java"));
        linesStandIn(source, readme);
        methodsStandIn(readme);
        Check.due(0, "README tells how to run the tests", true, () -> readme.contains(".ci/run"));
        Check.end();
    }

    private static void example() {
        Lorewick game = new Lorewick();
        for (char sign : "lamp".toCharArray()) game.type(sign);
        int lamp = game.word();
        for (char sign : "moss".toCharArray()) game.type(sign);
        int moss = game.word();
        int cellar = game.room(true);
        int attic = game.room(false);
        game.exit(attic, 'd', cellar);
        game.show(cellar, moss);
        game.thing(lamp, attic, 2, 'l');
        int secret = game.hint(20);
        game.teach(secret, moss);
        game.begin(attic);
        Check.due(0, "numbers", "[0, 1, 0, 1, 0]", () -> List.of(lamp, moss, cellar, attic, secret));

        for (char sign : "take lamp".toCharArray()) game.type(sign);
        char answer = game.say();
        int carried = game.place(0);
        int back = game.undo();
        int forth = game.redo(0);
        Check.due(0, "played", "[o, 100, 0, 1]", () -> List.of(answer, carried, back, forth));

        int price = game.price(secret);
        int bought = game.buy(secret);
        boolean known = game.isKnown(moss);
        int left = game.coins();
        Check.due(0, "bought", "[40, 2, true, 60]", () -> List.of(price, bought, known, left));
        game.undo();
        Check.due(0, "undone", "[false, 60]", () -> List.of(game.isKnown(moss), game.coins()));
    }

    /** Each line of the example stands in the source, in this order. */
    private static void linesStandIn(List<String> source, List<String> readme) {
        int at = 0;
        for (int i = readme.indexOf("```java") + 1; !readme.get(i).equals("```"); i++) {
            String line = readme.get(i).replaceFirst(" *//.*", "");
            int found = at;
            while (found < source.size() && !source.get(found).strip().equals(line)) {
                found++;
            }
            boolean isFound = found < source.size();
            Check.due(0, "line of README: " + line, true, () -> isFound);
            at = isFound ? found + 1 : at;
        }
    }

    /** Each method of the face stands in the table, and nothing else does. */
    private static void methodsStandIn(List<String> readme) {
        Set<String> want = new TreeSet<>();
        for (Method method : Lorewick.class.getDeclaredMethods()) {
            if (Modifier.isPublic(method.getModifiers())) {
                want.add(method.getName());
            }
        }
        Set<String> got = new TreeSet<>();
        for (String line : readme) {
            Matcher names = Pattern.compile("`([a-zA-Z]+)`").matcher(line.startsWith("| ") ? line : "");
            while (names.find()) {
                got.add(names.group(1));
            }
        }
        Check.due(0, "methods in the table of README", want, () -> got);
    }
}
