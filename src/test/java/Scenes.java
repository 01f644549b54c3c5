/** Where the rows of ThrowsTest and BoundTest begin: calls that tell a world, and what was played in it. */
final class Scenes {

    private static final String THIRTY = "typed abcdefghijklmnopqrstuvwxyzabcd";

    /** Words 0 to 8, rooms 0 to 2, things 0 to 5, goals 2, hints 0 to 3; 105 coins. */
    private static final String TOLD = """
        word lamp, word box, word key, word gem, word cup, word case, word fern, word moss, word rune,
        room false, room true, room false,
        exit 0 n 1, exit 1 s 0, exit 0 e 2, exit 2 w 0, exit 0 d 0,
        thing 0 0 2 l, thing 1 0 3 b, thing 2 0 1 p, thing 3 1 9 p, thing 4 1 4 p, thing 5 0 2 b,
        lock 0 e 2, show 0 6, show 1 7, tell 2 8, goal 4 0, goal 2 1,
        hint 10, teach 0 4, teach 0 7, hint 7, teach 1 8, hint 50, hint 1, teach 3 2, earn 5""";

    /** Nodes: 1 take key, from 0, with the name home; 2 light lamp, from 0; 3 buy 0, from 2; 4 wait, from 0; at 4. */
    private static final String PLAYED = """
        , begin 0, say take_key, name home, undo, name root, say light_lamp, buy 0, jump root, say wait""";

    /** Node 1 buy 2, with the word 8; 5 coins are left. */
    private static final String POOR = ", begin 0, teach 2 8, buy 2";

    /** Nodes: 1 take key, from 0; 2 buy 1, from 0; 3 to 79 read 1, each from the one ahead; at 79. */
    private static final String EIGHTY = ", begin 0, say take_key, undo, buy 1" + ", read 1".repeat(77);

    private Scenes() {
    }

    /** Returns the calls of a scene and of what stands behind its name, as "played, undo". */
    static String callsOf(String text) {
        String name = text.split(",")[0];
        return callsOfScene(name) + text.substring(name.length());
    }

    private static String callsOfScene(String name) {
        switch (name) {
            case "new":
                return "";
            case "thirty":
                return THIRTY;
            case "told":
                return TOLD;
            case "begun":
                return TOLD + ", begin 0";
            case "played":
                return TOLD + PLAYED;
            case "poor":
                return TOLD + POOR;
            case "eighty":
                return TOLD + EIGHTY;
            case "most":
                return most();
            default:
                throw new AssertionError("no such scene: " + name);
        }
    }

    /** As many words, rooms, things, goals and hints as there can be; the hint 0 has 6 words, 0 to 5. */
    private static String most() {
        StringBuilder calls = new StringBuilder("word waa");
        for (int i = 1; i < 40; i++) {
            calls.append(", word w").append((char) ('a' + i / 26)).append((char) ('a' + i % 26));
        }
        calls.append(", room false".repeat(12));
        for (int i = 0; i < 12; i++) {
            calls.append(", thing ").append(i).append(" 11 1 ").append("plb".charAt(i % 3)).append(", hint 1");
        }
        calls.append(", goal 1 11".repeat(6));
        for (int i = 0; i < 6; i++) {
            calls.append(", teach 0 ").append(i);
        }
        return calls.toString();
    }
}
