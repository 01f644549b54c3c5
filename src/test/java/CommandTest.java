/** Promise 16: what is said, and what comes of it. */
public final class CommandTest {

    public static void main(String[] args) {
        refusals();
        forms();
        words();
        nouns();
        going();
        taking();
        takingInTheDark();
        dropping();
        boxes();
        putting();
        lamps();
        burning();
        looking();
        sameCommand();
        fullTree();
        Check.end();
    }

    /**
     * Rooms: 0 lit, 1 dark, north of 0, 2 lit, east of 0 behind an exit that the key locks.
     * Things: lamp 0 (2), box 1 (3), key 2 (1), all in room 0; gem 3 (9) and cup 4 (4) in room 1,
     * case 5, a box (2), in room 0. Words beside: fern (room 0), moss (room 1), rune (told by the key).
     */
    static Lorewick house() {
        Lorewick x = new Lorewick();
        for (String text : "lamp,box,key,gem,cup,case,fern,moss,rune".split(",")) {
            Check.word(x, text);
        }
        x.room(false);
        x.room(true);
        x.room(false);
        x.exit(0, 'n', 1);
        x.exit(1, 's', 0);
        x.exit(0, 'e', 2);
        x.exit(2, 'w', 0);
        x.exit(0, 'd', 0);
        x.thing(0, 0, 2, 'l');
        x.thing(1, 0, 3, 'b');
        x.thing(2, 0, 1, 'p');
        x.thing(3, 1, 9, 'p');
        x.thing(4, 1, 4, 'p');
        x.thing(5, 0, 2, 'b');
        x.lock(0, 'e', 2);
        x.show(0, 6);
        x.show(1, 7);
        x.tell(2, 8);
        return x;
    }

    static Lorewick begun() {
        Lorewick x = house();
        x.begin(0);
        return x;
    }

    private static void due(String what, Object want, Check.Call call) {
        Check.due(16, what, want, call);
    }

    private static void says(Lorewick x, String text, char want) {
        due("say " + text, want, () -> Check.say(x, text));
    }

    private static void refusals() {
        Lorewick x = house();
        Check.type(x, "look");
        Check.refused(16, "play has not begun", IllegalStateException.class, () -> x.say());
        due("what is typed stays", 4, () -> x.clear());
    }

    private static void forms() {
        for (String text : new String[] {"", " ", "go", "go ", "go x", "go nn", "go north", "go  n", " go n", "go n ", "take",
            "take ", "take  key", " take key", "take key ", "take key key", "put", "put key", "put key in", "put key in ",
            "put key on box", "put key box", "put key in box box", "put  in box", "look ", " look", "look at key", "wait key",
            "wait ", "wai", "waitt", "n", "buy", "read", "merge", "in", "buy key", "read key", "merge key", "start", "start key", "taketh key",
            "tak key", "drops key", "a b c d e f g h i j k l m n o", "open", "close", "light", "douse", "drop", "key"}) {
            Lorewick x = begun();
            says(x, text, '?');
            due("behind '" + text + "' nothing is typed", 0, () -> x.clear());
            due("nothing comes of '" + text + "'", 1, () -> x.nodes());
        }
        Lorewick x = begun();
        says(x, "look", 'o');
        says(x, "wait", 'o');
        says(x, "go n", 'o');
        says(x, "go s", 'o');
        says(x, "take key", 'o');
        says(x, "drop key", 'o');
        says(x, "look key", 'o');
        says(x, "open box", 'o');
        says(x, "take key", 'o');
        says(x, "put key in box", 'o');
        says(x, "close box", 'o');
        says(x, "light lamp", 'o');
        says(x, "douse lamp", 'o');
        due("each is a node", 14, () -> x.nodes());
        due("and play is at the last", 13, () -> x.node());
    }

    private static void words() {
        Lorewick x = begun();
        for (String text : new String[] {"take owl", "take cup", "take gem", "drop moss", "open abcdefghij", "look rune",
            "put owl in box", "put key in owl", "put owl in owl", "put fern in owl", "put owl in fern", "take in", "take take",
            "put in in in", "put key in cup", "light x", "douse keys", "close ke"}) {
            says(x, text, 'w');
        }
        due("nothing comes of it", 1, () -> x.nodes());
        due("nor is anything typed", 0, () -> x.clear());
        Lorewick y = new Lorewick();
        Check.word(y, "in");
        Check.word(y, "take");
        y.room(false);
        y.thing(0, 0, 1, 'b');
        y.thing(1, 0, 1, 'p');
        y.begin(0);
        due("verbs can be nouns", "ooooo", () -> Check.sayAll(y, "take take,take in,open in,put take in in,look in"));
    }

    private static void nouns() {
        Lorewick x = begun();
        for (String text : new String[] {"take fern", "drop fern", "look fern", "put fern in box", "put key in fern", "open fern",
            "light fern", "douse fern", "close fern", "put fern in fern"}) {
            says(x, text, 'n');
        }
        due("no thing", 1, () -> x.nodes());
    }

    private static void going() {
        Lorewick x = begun();
        says(x, "go w", 'n');
        says(x, "go u", 'n');
        says(x, "go e", 'n');
        says(x, "go d", 'o');
        due("to the same room", 0, () -> x.at());
        due("is a node all the same", 1, () -> x.node());
        says(x, "open box", 'o');
        says(x, "take box", 'o');
        says(x, "take key", 'o');
        says(x, "put key in box", 'o');
        says(x, "go e", 'n');
        says(x, "take key", 'o');
        says(x, "go e", 'o');
        due("in room 2", 2, () -> x.at());
        says(x, "drop key", 'o');
        says(x, "go w", 'o');
        due("the way back is not locked", 0, () -> x.at());
        says(x, "go e", 'n');
    }

    private static void taking() {
        Lorewick x = begun();
        says(x, "take key", 'o');
        due("carried", 100, () -> x.place(2));
        says(x, "take key", 'n');
        says(x, "take lamp", 'o');
        says(x, "light lamp", 'o');
        says(x, "go n", 'o');
        says(x, "take gem", 'o');
        due("12 can be carried", 12, () -> x.weight());
        says(x, "take cup", 'n');
        due("and is not taken", 1, () -> x.place(4));
        due("nor weighs", 12, () -> x.weight());
        says(x, "drop key", 'o');
        says(x, "take cup", 'n');
        says(x, "drop gem", 'o');
        says(x, "take cup", 'o');
        says(x, "go s", 'o');
        says(x, "take gem", 'n');

        Lorewick y = begun();
        says(y, "open box", 'o');
        says(y, "take key", 'o');
        says(y, "put key in box", 'o');
        says(y, "take key", 'o');
        due("out of a box that lies", 100, () -> y.place(2));
        says(y, "put key in box", 'o');
        says(y, "take box", 'o');
        due("with what is in it", 4, () -> y.weight());
        says(y, "take key", 'o');
        due("out of a box that is carried", 100, () -> y.place(2));
        due("weighs the same", 4, () -> y.weight());
        says(y, "put key in box", 'o');
        says(y, "close box", 'o');
        says(y, "take key", 'n');
        due("closed, but carried", 4, () -> y.weight());

        heavyBox();
    }

    /** A box weighs with what is in it, also if it is closed. */
    private static void heavyBox() {
        Lorewick x = new Lorewick();
        for (String text : "box,tin,pot,pin".split(",")) {
            Check.word(x, text);
        }
        x.room(false);
        x.thing(0, 0, 4, 'b');
        x.thing(1, 0, 5, 'p');
        x.thing(2, 0, 3, 'p');
        x.thing(3, 0, 1, 'p');
        x.begin(0);
        Check.sayAll(x, "open box,take tin,put tin in box,take pot,put pot in box,take pin");
        says(x, "take box", 'n');
        due("13 is too much", 1, () -> x.weight());
        says(x, "close box", 'o');
        says(x, "take box", 'n');
        says(x, "drop pin", 'o');
        says(x, "take box", 'o');
        due("12 is not", 12, () -> x.weight());
        says(x, "take pin", 'n');
        says(x, "open box", 'o');
        says(x, "take tin", 'o');
        due("nothing is weighed twice", 12, () -> x.weight());
    }

    private static void takingInTheDark() {
        Lorewick x = begun();
        due("ahead", "oooo", () -> Check.sayAll(x, "take lamp,light lamp,go n,take cup"));
        due("in the dark", "ooo", () -> Check.sayAll(x, "drop cup,douse lamp,look"));
        says(x, "take cup", 'n');
        says(x, "look cup", 'n');
        says(x, "look lamp", 'o');
        says(x, "drop lamp", 'o');
        says(x, "take lamp", 'n');
        says(x, "light lamp", 'n');
        says(x, "look lamp", 'n');
        says(x, "go s", 'o');
        says(x, "look lamp", 'n');

        Lorewick y = begun();
        due("ahead", "oooooo", () -> Check.sayAll(y, "open box,take key,put key in box,take box,open case,take case"));
        due("in the dark", "oo", () -> Check.sayAll(y, "go n,look key"));
        says(y, "take key", 'o');
        says(y, "put key in case", 'o');
        says(y, "drop box", 'o');
        says(y, "take key", 'o');
        says(y, "put key in box", 'n');
        says(y, "open box", 'n');
        says(y, "close box", 'n');
        says(y, "close case", 'o');
    }

    private static void dropping() {
        Lorewick x = begun();
        says(x, "drop key", 'n');
        says(x, "take key", 'o');
        says(x, "go n", 'o');
        says(x, "drop key", 'o');
        due("lies there", 1, () -> x.place(2));
        Lorewick y = begun();
        due("ahead", "oooo", () -> Check.sayAll(y, "open box,take box,take key,put key in box"));
        says(y, "drop key", 'n');
        says(y, "drop box", 'o');
        due("the box lies", 0, () -> y.place(1));
        due("the key is in it still", 201, () -> y.place(2));
        due("nothing is carried", 0, () -> y.weight());
    }

    private static void boxes() {
        Lorewick x = begun();
        says(x, "close box", 'n');
        says(x, "open key", 'n');
        says(x, "close lamp", 'n');
        says(x, "open box", 'o');
        due("open", true, () -> x.isOpen(1));
        due("the other is not", false, () -> x.isOpen(5));
        says(x, "open box", 'n');
        says(x, "close box", 'o');
        due("closed", false, () -> x.isOpen(1));
        says(x, "close box", 'n');
        says(x, "take box", 'o');
        says(x, "go n", 'o');
        says(x, "open box", 'o');
    }

    private static void putting() {
        Lorewick x = begun();
        says(x, "put key in box", 'n');
        says(x, "open box", 'o');
        says(x, "put key in box", 'n');
        says(x, "take key", 'o');
        says(x, "put key in lamp", 'n');
        says(x, "put key in key", 'n');
        says(x, "put key in case", 'n');
        says(x, "put box in box", 'n');
        says(x, "take case", 'o');
        says(x, "put case in box", 'n');
        says(x, "put key in box", 'o');
        due("in the box", 201, () -> x.place(2));
        says(x, "put key in box", 'n');
        says(x, "open case", 'o');
        says(x, "put key in case", 'n');

        fullBox(0);
        fullBox(2);
        fullBox(4);
    }

    /** Four small things, one of them a lamp, and a box with this number. */
    private static void fullBox(int box) {
        Lorewick x = new Lorewick();
        x.room(false);
        x.room(false);
        x.exit(0, 'n', 1);
        String small = "abcd";
        for (int i = 0, j = 0; i < 5; i++) {
            Check.word(x, i == box ? "box" : small.substring(j, j + 1));
            x.thing(i, 0, 1, i == box ? 'b' : j == 0 ? 'l' : 'p');
            j += i == box ? 0 : 1;
        }
        x.begin(0);
        due("ahead", "ooooo", () -> Check.sayAll(x, "open box,take a,take b,take c,take d"));
        due("three", "ooo", () -> Check.sayAll(x, "put a in box,put b in box,put c in box"));
        says(x, "put d in box", 'n');
        says(x, "take b", 'o');
        says(x, "put d in box", 'o');
        due("in the box " + box, 200 + box, () -> x.place(box == 4 ? 3 : 4));
        says(x, "go n", 'o');
        says(x, "put b in box", 'n');
    }

    private static void lamps() {
        Lorewick x = begun();
        says(x, "douse lamp", 'n');
        says(x, "light key", 'n');
        says(x, "light box", 'n');
        says(x, "douse box", 'n');
        says(x, "light lamp", 'o');
        due("1 turn less", 9, () -> x.lit(0));
        says(x, "light lamp", 'n');
        due("no turn behind what is not done", 9, () -> x.lit(0));
        says(x, "look", 'o');
        due("1 turn less again", 8, () -> x.lit(0));
        says(x, "douse lamp", 'o');
        due("doused at once", -9, () -> x.lit(0));
        says(x, "douse lamp", 'n');
        Lorewick y = house();
        y.fuel(0, 0);
        y.begin(0);
        says(y, "light lamp", 'n');
        Lorewick z = house();
        z.fuel(0, 1);
        z.begin(0);
        says(z, "light lamp", 'o');
        due("its last turn", -1, () -> z.lit(0));
        says(z, "light lamp", 'n');
    }

    /** Each lit lamp burns, wherever it is, until it has no fuel. */
    private static void burning() {
        Lorewick x = house();
        x.fuel(0, 4);
        x.begin(0);
        says(x, "light lamp", 'o');
        due("3", 3, () -> x.lit(0));
        says(x, "go n", 'o');
        due("far away", 2, () -> x.lit(0));
        says(x, "go s", 'o');
        says(x, "take lamp", 'o');
        due("burnt out", -1, () -> x.lit(0));

        Lorewick y = house();
        y.fuel(0, 6);
        y.begin(0);
        due("ahead", "oooo", () -> Check.sayAll(y, "open box,take lamp,light lamp,put lamp in box"));
        due("4", 4, () -> y.lit(0));
        says(y, "close box", 'o');
        due("in a closed box", 3, () -> y.lit(0));
        says(y, "take box", 'o');
        says(y, "go n", 'o');
        due("1", 1, () -> y.lit(0));
        due("no light from a closed box", false, () -> y.isBright());
        due("the cup is not shown", false, () -> y.isKnown(4));
        says(y, "open box", 'o');
        due("burnt out with this", -1, () -> y.lit(0));
        due("so it is dark", false, () -> y.isBright());
        due("and still not shown", false, () -> y.isKnown(4));
        due("but the lamp is", true, () -> y.posting(0, y.postings(0) - 1) == y.node());
    }

    private static void looking() {
        Lorewick x = begun();
        due("not ahead", false, () -> x.isKnown(8));
        long before = x.checksum();
        says(x, "look", 'o');
        due("not by looking round", false, () -> x.isKnown(8));
        says(x, "look lamp", 'o');
        due("not by another thing", false, () -> x.isKnown(8));
        says(x, "look key", 'o');
        due("by looking at it", true, () -> x.isKnown(8));
        says(x, "wait", 'o');
        due("nothing is changed", before, () -> x.checksum());
        due("the word is shown at one node alone", 1, () -> x.postings(8));
        due("this one", 3, () -> x.posting(8, 0));
        due("the room's word at all", 5, () -> x.postings(6));
        Lorewick y = begun();
        due("carried", "ooo", () -> Check.sayAll(y, "take key,go n,look key"));
        due("also in the dark", true, () -> y.isKnown(8));
        due("without the room's word", false, () -> y.isKnown(7));
        Lorewick z = begun();
        due("in a box", "oooo", () -> Check.sayAll(z, "open box,take key,put key in box,close box"));
        says(z, "look key", 'n');
        due("in an open box", "oo", () -> Check.sayAll(z, "open box,look key"));
    }

    private static void sameCommand() {
        Lorewick x = begun();
        says(x, "take key", 'o');
        x.undo();
        says(x, "look", 'o');
        due("another command, another node", 2, () -> x.node());
        x.undo();
        says(x, "take key", 'o');
        due("the same command, the same node", 1, () -> x.node());
        says(x, "look", 'o');
        due("the same from elsewhere is new", 3, () -> x.node());
        x.undo();
        says(x, "look key", 'o');
        due("look with a noun is another", 4, () -> x.node());
        x.undo();
        says(x, "look lamp", 'o');
        due("and with another noun", 5, () -> x.node());
        due("six nodes", 6, () -> x.nodes());
        Check.sayAll(x, "open box,open case,put key in box");
        due("in the box", 201, () -> x.place(2));
        int node = x.node();
        x.undo();
        says(x, "put key in case", 'o');
        due("in another box", 205, () -> x.place(2));
        due("is another command", node + 1, () -> x.node());
        x.undo();
        says(x, "wait", 'o');
        x.undo();
        says(x, "put key in case", 'o');
        due("found again", node + 1, () -> x.node());
    }

    private static void fullTree() {
        Lorewick x = begun();
        x.hint(1);
        x.teach(0, 8);
        x.buy(0);
        for (int i = 2; i < 79; i++) {
            x.read(0);
        }
        says(x, "look", 'o');
        due("80 nodes", 80, () -> x.nodes());
        Check.type(x, "wait");
        Check.refused(16, "no further node", IllegalStateException.class, () -> x.say());
        due("what is typed stays", 4, () -> x.clear());
        due("play stays", 79, () -> x.node());
        says(x, "go w", 'n');
        says(x, "take owl", 'w');
        says(x, "dance", '?');
        says(x, "", '?');
        x.undo();
        says(x, "look", 'o');
        due("no further node is needed", 79, () -> x.node());
        x.undo();
        Check.type(x, "wait");
        Check.refused(16, "another child", IllegalStateException.class, () -> x.say());
        due("full and sound", true, () -> x.isSound());
    }
}
