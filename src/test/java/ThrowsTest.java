import java.util.ArrayList;
import java.util.List;

/**
 * Promises 2 to 54: each sentence of the document that names an exception, with calls that must throw it, also
 * where one that is documented later applies, too; and no such call may change anything.
 */
public final class ThrowsTest {

    // A line with # has a promise and its sentence; a row has a scene, further calls, a colon, and the call.
    private static final String TELLING = """
        # 2 IllegalArgumentException if there is no such sign
        new: type A
        new: type Z
        new: type `
        new: type {
        new: type 0
        new: type -
        new: type 10
        new: type 353
        new: type 65535
        begun: type A
        thirty: type A
        # 2 IllegalStateException if there are 30
        thirty: type a
        thirty: type z
        thirty: type blank
        new, typed ______________________________: type a
        # 4 IllegalArgumentException if it is not 1 to 8 letters
        new: word
        new, typed abcdefghi: word
        new, typed _: word
        new, typed a_b: word
        new, typed _a: word
        new, typed a_: word
        thirty: word
        told, typed lamp_: word
        most: word
        most, typed abcdefghi: word
        # 4 UnsupportedOperationException if there is such a word
        told, typed lamp: word
        told, typed rune: word
        begun, typed rune: word
        most, typed waa: word
        most, typed wbn: word
        # 4 IllegalStateException if there are 40
        most, typed a: word
        most, begin 0, typed newword: word
        # 5 IllegalStateException if there are 12, or play has begun
        most: room false
        most: room true
        begun: room false
        begun: room true
        most, begin 0: room false
        # 6 IndexOutOfBoundsException if there is no such room or word
        new: show 0 0
        told: show -1 0
        told: show 3 0
        told: show 2147483647 0
        told: show -2147483648 0
        told: show 0 -1
        told: show 0 9
        told: show 0 64
        told: show 0 2147483647
        told: show 0 -2147483648
        begun: show 3 0
        begun: show 0 9
        # 6 IllegalStateException if play has begun
        begun: show 0 8
        begun: show 1 6
        # 7 IndexOutOfBoundsException if there is no such room, for either
        new: exit 0 n 0
        told: exit -1 u 0
        told: exit 3 u 0
        told: exit 2147483647 u 0
        told: exit -2147483648 u 0
        told: exit 0 u -1
        told: exit 0 u 3
        told: exit 0 u 2147483647
        told: exit 0 u -2147483648
        told: exit 3 x 0
        told: exit 0 x 3
        begun: exit 3 u 0
        begun: exit 0 u 3
        # 7 IllegalArgumentException if there is no such direction
        told: exit 0 x 1
        told: exit 0 N 1
        told: exit 0 blank 1
        told: exit 0 366 1
        begun: exit 0 x 1
        # 7 IllegalStateException if play has begun
        begun: exit 0 u 1
        begun: exit 0 e 2
        # 8 IndexOutOfBoundsException if there is no such room or thing
        told: lock -1 n 0
        told: lock 3 n 0
        told: lock 2147483647 n 0
        told: lock -2147483648 n 0
        told: lock 0 n -1
        told: lock 0 n 6
        told: lock 0 n 2147483647
        told: lock 0 n -2147483648
        told: lock 3 x 0
        told: lock 0 x 6
        told: lock 0 u 6
        begun: lock 3 n 0
        begun: lock 0 n 6
        # 8 IllegalArgumentException if there is no such direction
        told: lock 0 x 0
        told: lock 0 E 0
        told: lock 0 blank 0
        begun: lock 0 x 0
        # 8 UnsupportedOperationException if there is no such exit
        told: lock 0 u 0
        told: lock 1 n 0
        begun: lock 0 u 0
        # 8 IllegalStateException if play has begun
        begun: lock 0 n 0
        begun: lock 0 e 0
        # 9 IndexOutOfBoundsException if there is no such word or room
        told: thing -1 0 1 p
        told: thing 9 0 1 p
        told: thing 2147483647 0 1 p
        told: thing -2147483648 0 1 p
        told: thing 6 -1 1 p
        told: thing 6 3 1 p
        told: thing 6 2147483647 1 p
        told: thing 6 -2147483648 1 p
        told: thing 9 0 0 p
        told: thing 9 0 1 x
        told: thing 6 3 0 p
        told: thing 6 3 1 x
        told: thing 0 3 1 p
        begun: thing 9 0 1 p
        begun: thing 6 3 1 p
        most: thing 40 0 1 p
        most: thing 39 12 1 p
        # 9 IllegalArgumentException if the weight is out of range, or there is no such kind
        told: thing 6 0 0 p
        told: thing 6 0 10 p
        told: thing 6 0 -1 p
        told: thing 6 0 2147483647 p
        told: thing 6 0 -2147483648 p
        told: thing 6 0 1 x
        told: thing 6 0 1 P
        told: thing 6 0 1 blank
        told: thing 6 0 1 368
        told: thing 0 0 10 p
        told: thing 0 0 1 x
        begun: thing 6 0 0 p
        begun: thing 6 0 1 x
        most: thing 39 0 10 p
        most: thing 39 0 1 x
        # 9 UnsupportedOperationException if another thing has this noun
        told: thing 0 0 1 p
        told: thing 5 2 9 b
        begun: thing 5 0 1 p
        most: thing 0 0 1 p
        # 9 IllegalStateException if there are 12, or play has begun
        most: thing 39 0 1 p
        begun: thing 6 0 1 p
        most, begin 0: thing 39 0 1 p
        # 10 IndexOutOfBoundsException if there is no such thing
        told: fuel -1 1
        told: fuel 6 1
        told: fuel 2147483647 1
        told: fuel -2147483648 1
        told: fuel 6 100
        begun: fuel 6 1
        # 10 IllegalArgumentException if the turns are out of range
        told: fuel 0 -1
        told: fuel 0 100
        told: fuel 0 2147483647
        told: fuel 0 -2147483648
        told: fuel 1 100
        begun: fuel 0 -1
        # 10 UnsupportedOperationException if it is no lamp
        told: fuel 1 5
        told: fuel 2 5
        begun: fuel 1 5
        # 10 IllegalStateException if play has begun
        begun: fuel 0 5
        # 11 IndexOutOfBoundsException if there is no such thing or word
        told: tell -1 0
        told: tell 6 0
        told: tell 2147483647 0
        told: tell -2147483648 0
        told: tell 0 -1
        told: tell 0 9
        told: tell 0 64
        told: tell 0 2147483647
        told: tell 0 -2147483648
        begun: tell 6 0
        begun: tell 0 9
        # 11 IllegalStateException if play has begun
        begun: tell 0 8
        begun: tell 2 8
        # 12 IndexOutOfBoundsException if there is no such thing or room
        told: goal -1 0
        told: goal 6 0
        told: goal 2147483647 0
        told: goal -2147483648 0
        told: goal 0 -1
        told: goal 0 3
        told: goal 0 2147483647
        told: goal 0 -2147483648
        begun: goal 6 0
        begun: goal 0 3
        most: goal 12 0
        most: goal 0 12
        # 12 IllegalStateException if there are 6, or play has begun
        most: goal 0 0
        begun: goal 0 0
        # 13 IllegalArgumentException if it is out of range
        told: hint 0
        told: hint 51
        told: hint -1
        told: hint 2147483647
        told: hint -2147483648
        begun: hint 0
        most: hint 51
        # 13 IllegalStateException if there are 12
        most: hint 1
        most, begin 0: hint 50
        # 14 IndexOutOfBoundsException if there is no such hint or word
        told: teach -1 0
        told: teach 4 0
        told: teach 2147483647 0
        told: teach -2147483648 0
        told: teach 0 -1
        told: teach 0 9
        told: teach 0 64
        told: teach 0 2147483647
        told: teach 0 -2147483648
        played: teach 0 9
        most: teach 12 0
        most: teach 0 40
        # 14 UnsupportedOperationException if it has this word, or was sold
        told: teach 0 4
        begun: teach 1 8
        played: teach 0 0
        played: teach 0 4
        played, jump root: teach 0 8
        most: teach 0 0
        most, begin 0, buy 0: teach 0 6
        # 14 IllegalStateException if it has 6
        most: teach 0 6
        most, begin 0: teach 0 39
        # 15 IndexOutOfBoundsException if there is no such room
        new: begin 0
        told: begin -1
        told: begin 3
        told: begin 2147483647
        told: begin -2147483648
        most: begin 12
        begun: begin 3
        # 15 IllegalStateException if play has begun
        begun: begin 0
        played: begin 1
        """;

    private static final String STATES = """
        # 16 IllegalStateException if play has not begun, or it would need a further node, and there are 80
        told: say
        told, typed look: say
        eighty, typed wait: say
        eighty, typed go_n: say
        eighty, typed take_key: say
        eighty, undo, typed look_lamp: say
        # 17 IllegalStateException if play has not begun
        told: at
        # 18 IndexOutOfBoundsException if there is no such thing
        told: place 6
        begun: place -1
        begun: place 6
        begun: place 2147483647
        begun: place -2147483648
        # 18 IllegalStateException if play has not begun
        told: place 0
        # 19 IndexOutOfBoundsException if there is no such thing
        told: isOpen 6
        begun: isOpen -1
        begun: isOpen 6
        begun: isOpen 2147483647
        begun: isOpen -2147483648
        # 19 IllegalStateException if play has not begun
        told: isOpen 1
        told: isOpen 0
        # 19 UnsupportedOperationException if it is no box
        begun: isOpen 0
        begun: isOpen 2
        # 20 IndexOutOfBoundsException if there is no such thing
        told: lit 6
        begun: lit -1
        begun: lit 6
        begun: lit 2147483647
        begun: lit -2147483648
        # 20 IllegalStateException if play has not begun
        told: lit 0
        told: lit 1
        # 20 UnsupportedOperationException if it is no lamp
        begun: lit 1
        begun: lit 2
        # 21 IllegalStateException if play has not begun
        told: isBright
        # 22 IllegalStateException if play has not begun
        told: weight
        # 48 IllegalStateException if play has not begun
        told: score
        # 49 IndexOutOfBoundsException if there is no such room
        told: steps 3
        begun: steps -1
        begun: steps 3
        begun: steps 2147483647
        begun: steps -2147483648
        # 49 IllegalStateException if play has not begun
        told: steps 0
        # 49 NoSuchElementException if there is no way
        begun: steps 2
        most, begin 0: steps 11
        # 50 IllegalStateException if play has not begun
        told: line
        # 51 IllegalStateException if play has not begun
        told: signOf 0
        told: signOf -1
        # 51 NoSuchElementException if there is no such sign
        begun: signOf -1
        begun: signOf 6
        begun: signOf 2147483647
        begun: signOf -2147483648
        # 52 IllegalStateException if play has not begun
        told: checksum
        """;

    private static final String NODES = """
        # 23 IllegalStateException if play has not begun
        told: node
        # 24 IllegalStateException if play has not begun
        told: nodes
        # 25 IndexOutOfBoundsException if there is no such node
        told: parent 0
        played: parent -1
        played: parent 5
        played: parent 2147483647
        played: parent -2147483648
        eighty: parent 80
        # 25 NoSuchElementException if it is the node 0
        begun: parent 0
        played: parent 0
        # 26 IndexOutOfBoundsException if there is no such node
        told: depth 0
        played: depth -1
        played: depth 5
        played: depth 2147483647
        played: depth -2147483648
        eighty: depth 80
        # 27 IndexOutOfBoundsException if there is no such node
        told: children 0
        played: children -1
        played: children 5
        played: children 2147483647
        played: children -2147483648
        eighty: children 80
        # 28 IndexOutOfBoundsException if there is no such node, for either
        told: common 0 0
        played: common -1 0
        played: common 5 0
        played: common 2147483647 0
        played: common -2147483648 0
        played: common 0 -1
        played: common 0 5
        played: common 0 2147483647
        played: common 0 -2147483648
        # 29 IllegalStateException if play has not begun
        told: undo
        # 29 NoSuchElementException if play is at the node 0
        begun: undo
        played, undo: undo
        # 30 IllegalStateException if play has not begun
        told: redo 0
        told: redo -1
        # 30 NoSuchElementException if there is no such child
        begun: redo 0
        played: redo 0
        played, undo: redo -1
        played, undo: redo 3
        played, undo: redo 2147483647
        played, undo: redo -2147483648
        # 31 IllegalStateException if play has not begun
        told: name
        told, typed home: name
        told, typed abcdefghi: name
        # 31 IllegalArgumentException if it is not 1 to 8 letters
        played: name
        played, typed abcdefghi: name
        played, typed _: name
        played, typed a_b: name
        played, typed home_: name
        # 31 UnsupportedOperationException if another node has this name
        played, typed home: name
        played, typed root: name
        played, name end, typed home: name
        # 32 IllegalStateException if play has not begun
        told: jump
        told, typed home: jump
        # 32 NoSuchElementException if there is no such name
        begun, typed home: jump
        played: jump
        played, typed hom: jump
        played, typed homes: jump
        played, typed home_: jump
        played, typed abcdefghi: jump
        played, undo, name new, typed root: jump
        """;

    private static final String INDEX = """
        # 33 IndexOutOfBoundsException if there is no such word
        told: isKnown 9
        begun: isKnown -1
        begun: isKnown 9
        begun: isKnown 64
        begun: isKnown 2147483647
        begun: isKnown -2147483648
        # 33 IllegalStateException if play has not begun
        told: isKnown 0
        # 34 IllegalStateException if play has not begun
        told: known
        # 35 IndexOutOfBoundsException if there is no such word
        told: learnt 9
        begun: learnt -1
        begun: learnt 9
        begun: learnt 64
        begun: learnt 2147483647
        begun: learnt -2147483648
        # 35 IllegalStateException if play has not begun
        told: learnt 0
        # 35 NoSuchElementException if it is not known
        begun: learnt 8
        played: learnt 4
        # 36 IndexOutOfBoundsException if there is no such word
        new: postings 0
        told: postings -1
        told: postings 9
        begun: postings 9
        begun: postings 64
        begun: postings 2147483647
        begun: postings -2147483648
        # 37 IndexOutOfBoundsException if there is no such word
        told: posting 9 0
        begun: posting -1 0
        begun: posting 9 0
        begun: posting 9 -1
        begun: posting 2147483647 0
        begun: posting -2147483648 0
        # 37 NoSuchElementException if there is no such posting
        told: posting 0 0
        begun: posting 8 0
        begun: posting 0 -1
        begun: posting 0 1
        played: posting 4 1
        begun: posting 0 2147483647
        begun: posting 0 -2147483648
        # 38 IllegalStateException if play has not begun
        told: rare 0
        told: rare -1
        # 38 NoSuchElementException if there is no such word
        begun: rare -1
        begun: rare 5
        begun: rare 2147483647
        begun: rare -2147483648
        new, room false, begin 0: rare 0
        # 53 IllegalStateException if play has not begun
        told: knownShare
        new: knownShare
        # 53 ArithmeticException if there are no words
        new, room false, begin 0: knownShare
        """;

    private static final String SHOP = """
        # 39 IndexOutOfBoundsException if there is no such hint
        told: price 4
        begun: price -1
        begun: price 4
        begun: price 2147483647
        begun: price -2147483648
        # 39 IllegalStateException if play has not begun
        told: price 0
        # 39 UnsupportedOperationException if it is owned
        played, jump root: price 0
        poor: price 2
        poor, undo: price 2
        # 40 IndexOutOfBoundsException if there is no such hint
        told: buy 4
        begun: buy -1
        begun: buy 4
        begun: buy 2147483647
        begun: buy -2147483648
        eighty: buy 4
        # 40 IllegalStateException if play has not begun, or there are 80 nodes
        told: buy 0
        told: buy 2
        eighty: buy 0
        eighty: buy 1
        eighty: buy 3
        eighty, undo: buy 1
        eighty, teach 2 4: buy 2
        # 40 UnsupportedOperationException if it is owned, or all its words are known
        begun: buy 2
        begun: buy 3
        played, jump root: buy 0
        poor: buy 2
        poor, undo: buy 2
        # 40 NoSuchElementException if there are not so many coins
        poor: buy 0
        poor, earn 34: buy 0
        # 41 IndexOutOfBoundsException if there is no such hint
        told: isOwned 4
        begun: isOwned -1
        begun: isOwned 4
        begun: isOwned 2147483647
        begun: isOwned -2147483648
        # 41 IllegalStateException if play has not begun
        told: isOwned 0
        # 42 IndexOutOfBoundsException if there is no such hint
        told: read 4
        begun: read -1
        begun: read 4
        begun: read 2147483647
        begun: read -2147483648
        eighty: read 4
        # 42 IllegalStateException if play has not begun, or a further node would be needed, and there are 80
        told: read 0
        eighty: read 1
        eighty: read 0
        # 42 UnsupportedOperationException if it is not owned
        begun: read 0
        begun: read 2
        played: read 0
        poor, undo, read 2: read 2
        # 44 IllegalArgumentException if it is out of range
        new: earn 0
        new: earn 100
        new: earn -1
        new: earn 2147483647
        new: earn -2147483648
        played: earn 0
        # 46 IndexOutOfBoundsException if there is no such sale
        new: sale 0 h
        played: sale -1 h
        played: sale 1 h
        played: sale 1 x
        played: sale 2147483647 n
        played: sale -2147483648 c
        # 46 IllegalArgumentException if there is no such thing
        played: sale 0 x
        played: sale 0 H
        played: sale 0 blank
        played: sale 0 360
        # 47 IndexOutOfBoundsException if there is no such node
        told: merge 0
        played: merge -1
        played: merge 5
        played: merge 2147483647
        played: merge -2147483648
        eighty: merge 80
        # 47 IllegalStateException if play has not begun, or a further node would be needed, and there are 80
        eighty: merge 1
        eighty, undo: merge 1
        # 47 UnsupportedOperationException if none can be taken
        begun: merge 0
        played: merge 4
        played: merge 3
        played, merge 1: merge 1
        eighty: merge 0
        eighty: merge 79
        # 54 NoSuchElementException if none was sold
        new: meanPrice
        begun: meanPrice
        """;

    // Calls that tell what can be told of an object; ahead of begin some of them change it, which is due.
    private static final List<String> AHEAD = List.of("""
        word, clear, word fresh, room false, coins, sales, earn 1, show 0 0, show 0 6, show 1 7, show 2 3, exit 0 n 0,
        exit 0 u 0, exit 1 s 0, exit 2 w 1, exit 2 u 0, tell 0 0, tell 0 8, tell 2 0, tell 2 8, tell 5 1, goal 4 0, hint 3,
        teach 0 3, teach 1 3, teach 2 3, teach 3 3, teach 4 3, fuel 0 7, thing 8 1 3 b, begin 0, price 0, price 1, price 2""",
        "lock 0 n 0, lock 0 e 0, lock 1 s 0, lock 2 w 0, lock 0 d 0, lock 1 n 0, lock 0 u 0, lock 2 u 0, begin 0, steps 2");
    private static final List<String> PROBES = probes();

    public static void main(String[] args) {
        for (String rows : new String[] {TELLING, STATES, NODES, INDEX, SHOP}) {
            check(rows);
        }
        Check.end();
    }

    private static void check(String rows) {
        int promise = 0;
        String due = "";
        for (String row : rows.lines().toList()) {
            if (row.startsWith("#")) {
                String[] parts = row.split(" ");
                promise = Integer.parseInt(parts[1]);
                due = "throws java." + (parts[2].startsWith("NoSuch") ? "util." : "lang.") + parts[2];
            } else {
                String[] parts = row.split(": ");
                refused(promise, row, Scenes.callsOf(parts[0]), parts[1], due);
            }
        }
    }

    private static void refused(int promise, String row, String calls, String call, String due) {
        Script x = new Script();
        x.run(calls);
        Check.due(promise, row, due, () -> x.run(call));
        boolean isBegun = !new Script().run(calls + ", node").endsWith("Exception");
        for (String probe : isBegun ? PROBES : AHEAD) {
            checkUnchanged(promise, row, calls, call, probe);
        }
        for (int i = 0; i < PROBES.size() && !isBegun; i++) {
            checkUnchanged(promise, row, calls, call, "begin 0, " + PROBES.get(i));
        }
    }

    /** What the object tells behind the refused call is what one tells that did without it. */
    private static void checkUnchanged(int promise, String row, String calls, String call, String probe) {
        Script one = new Script();
        one.run(calls);
        String want = one.run(probe);
        Script other = new Script();
        other.run(calls);
        other.run(call);
        Check.due(promise, row + ", and nothing changes, as told by " + probe, want, () -> other.run(probe));
    }

    private static List<String> probes() {
        List<String> probes = new ArrayList<>();
        probes.add("word, clear, word fresh, hint 2, teach 4 0, hint 9, earn 1, sale 0 h, sale 0 n, sale 0 c, sale 1 h, sale 1 c");
        probes.add("clear, name fresh, name fresher, jump home, jump root, jump fresher, name end, undo, jump end, node");
        probes.add("clear, jump end, node, undo, name other, jump home, name other, jump root, jump other, node");
        probes.add("jump, node, clear, undo, node, redo 0, node, undo, redo 1, redo 2, undo, undo, undo, redo 0, redo 3");
        probes.add("say, clear, say look, say look_key, checksum, say light_lamp, say open_box, say put_key_in_box, checksum");
        probes.add("clear, say take_lamp, say wait, say go_n, known, say light_lamp, say go_s, say go_e, known, checksum, isSound");
        probes.add("buy 0, buy 1, buy 2, buy 3, nodes, coins, isSound, read 0, read 1, checksum, merge 1, merge 0, node, weight");
        probes.add("teach 0 8, teach 1 7, teach 2 6, teach 0 3, price 0, price 1, price 2, price 3, room true, show 0 0, begin 0");
        probes.add("say look, postings 8, postings 6, postings 7, say look_lamp, postings 8, say look_key, postings 8, say go_n");
        StringBuilder state = new StringBuilder("at, isBright, weight, node, nodes, known, coins, sales, score, checksum, line");
        state.append(", knownShare, meanPrice, isSound").append(each("signOf", 0, 26)).append(each("rare", 0, 10));
        probes.add(state + each("place", 0, 6) + each("isOpen", 0, 6) + each("lit", 0, 6) + each("steps", 0, 4));
        probes.add("at" + each("price", 0, 5) + each("isOwned", 0, 5) + each("parent", 0, 6) + each("depth", 0, 6)
            + each("children", 0, 6) + each("depth", 76, 81) + each("common 3", 0, 6) + each("common 79", 0, 3));
        probes.add("known" + each("isKnown", 0, 10) + each("learnt", 0, 10) + each("postings", 0, 10)
            + each("posting 0", 0, 6) + each("posting 8", 0, 6) + each("posting 2", 0, 6));
        return probes;
    }

    /** The calls with each number from the first to below the end. */
    private static String each(String call, int first, int end) {
        StringBuilder calls = new StringBuilder();
        for (int i = first; i < end; i++) {
            calls.append(", ").append(call).append(' ').append(i);
        }
        return calls.toString();
    }
}
