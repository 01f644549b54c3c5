/**
 * The sentences of the document that name a bound, and what is due at it: in the order of the document, with
 * the promise by which each is told. What is refused beyond a bound stands in ThrowsTest.
 */
public final class BoundTest {

    // A line with # has a promise and a sentence; a row has a scene, further calls, a colon, calls, and their answers.
    private static final String TEXTS = """
        # 2 A text of at most 30 signs
        new, typed abcdefghijklmnopqrstuvwxyzabc: type d = 30
        thirty: clear = 30
        # 2 letters a to z and blanks
        new: type a, type z, type blank = 1, 2, 3
        # 2 is empty behind a call that takes it
        new, word lamp: clear = 0
        begun, say look: clear = 0
        begun, say nonsense: clear = 0
        begun, name home: clear = 0
        played, jump home: clear = 0
        # 2 but not if that is refused
        told, word lamp: clear = 4
        played, name home: clear = 4
        played, jump nowhere: clear = 7
        eighty, say wait: clear = 4
        # 3 Empties what is typed.
        new: clear = 0
        new, typed a_b: clear, clear = 3, 0
        # 4 Words are at most 40, numbered from 0
        new: word a = 0
        most: postings 0, postings 39 = 0, 0
        # 4 of 1 to 8 letters
        new: word a, word zzzzzzzz = 0, 1
        # 4 no two alike
        new, word ab: word a, word b, word ba, word abb, word aab = 1, 2, 3, 4, 5
        """;

    private static final String WORLD = """
        # 5 at most 12 rooms
        most, begin 11: at, steps 11 = 11, 0
        new: room true, room false = 0, 1
        # 5 lit or dark
        new, room false, begin 0: isBright = true
        new, room true, begin 0: isBright = false
        # 6 Returns how many unlike words it shows.
        told: show 0 6, show 0 0, show 0 0, show 2 0, show 1 8 = 1, 2, 2, 1, 2
        most: show 0 0, show 0 39, show 0 39 = 1, 2, 2
        # 7 a direction, n e s w u d
        new, room false: exit 0 n 0, exit 0 e 0, exit 0 s 0, exit 0 w 0, exit 0 u 0, exit 0 d 0 = -1, -1, -1, -1, -1, -1
        # 7 to another room or to the same
        begun: say go_d, at, node = o, 0, 1
        begun: say go_n, at, node = o, 1, 1
        # 7 in place of one there
        told: exit 0 n 2, exit 0 n 0, exit 0 n 0 = 1, 2, 0
        # 7 Makes an exit, not locked
        told, exit 0 e 2, begin 0: say go_e, at = o, 2
        told, exit 0 e 2: lock 0 e 0 = -1
        # 7 Returns the room to which it led, -1 for none.
        told: exit 0 n 1, exit 0 d 1, exit 0 u 1 = 1, 0, -1
        # 8 Returns the thing that opened it, -1 for none.
        told: lock 0 e 0, lock 0 e 5, lock 0 e 5, lock 0 n 0 = 2, 0, 5, -1
        # 9 at most 12 things
        most, begin 11: place 0, place 11 = 11, 11
        # 9 a weight, 1 to 9
        told: thing 6 0 1 p, thing 7 0 9 p = 6, 7
        # 9 not lit and with 10 turns of fuel at first
        told, thing 6 0 1 l, begin 0: lit 6 = -11
        # 9 closed at first
        told, thing 6 0 1 b, begin 0: isOpen 6, say open_fern = false, o
        # 10 the turns, 0 to 99
        told: fuel 0 0, fuel 0 99, fuel 0 1 = 10, 0, 99
        # 11 Returns how many unlike words it shows.
        told: tell 2 8, tell 2 2, tell 2 2, tell 0 8 = 1, 2, 2, 1
        # 12 at most 6 goals
        told: goal 4 0, goal 4 1, goal 0 0, goal 5 2 = 3, 4, 5, 6
        # 13 Hints. At most 12 are numbered from 0
        new: hint 1, hint 1 = 0, 1
        most, begin 0: price 11 = 0
        # 13 a base, 1 to 50
        told: hint 1, hint 50 = 4, 5
        told, hint 50, teach 4 8, begin 0: price 4 = 100
        told, hint 1, teach 4 8, begin 0: price 4 = 2
        # 14 at most 6 words
        told: teach 2 0, teach 2 1, teach 2 2, teach 2 3, teach 2 4, teach 2 5 = 1, 2, 3, 4, 5, 6
        # 15 Returns how many words are known.
        told: begin 0 = 5
        told: begin 1 = 0
        told: begin 2 = 0
        new, room false: begin 0 = 0
        most: begin 11 = 12
        """;

    private static final String STATES = """
        # 16 Take: the thing is not carried, also if it is in an open box
        begun, say take_key: say take_key, place 2 = n, 100
        begun, say open_box, say take_key, say put_key_in_box: say take_key, place 2 = o, 100
        begun, say open_box, say take_key, say put_key_in_box, say take_box: say take_key, place 2 = o, 100
        begun, say open_box, say take_key, say put_key_in_box, say close_box: say take_key, place 2 = n, 201
        # 16 weighs at most 12
        begun, say take_lamp, say light_lamp, say take_key, say go_n: say take_gem, weight, say take_cup, weight = o, 12, n, 12
        begun, say take_lamp, say light_lamp, say take_box, say go_n: say take_gem, weight, say take_cup, weight = n, 5, o, 9
        # 16 all that is carried then, with what is in boxes
        told, thing 6 0 9 p, begin 0, say open_box, say take_key, say put_key_in_box, say close_box, say take_box: say take_fern, weight = n, 4
        told, thing 6 0 9 p, begin 0, say take_box: say take_fern, weight = o, 12
        told, thing 6 0 8 p, begin 0, say open_box, say take_key, say put_key_in_box, say take_fern: say take_box, weight = o, 12
        told, thing 6 0 9 p, begin 0, say open_box, say take_key, say put_key_in_box, say take_fern: say take_box, weight = n, 9
        # 16 Go: there must be such an exit, and, if it is locked, its thing must be carried, not in a box
        begun: say go_u, say go_e = n, n
        begun, say take_key: say go_e, at = o, 2
        begun, say take_key, say open_box, say take_box, say put_key_in_box: say go_e, at = n, 0
        # 16 Drop: it is carried, not in a box
        begun: say drop_key = n
        begun, say take_key: say drop_key, say drop_key, place 2 = o, n, 0
        begun, say take_key, say open_box, say take_box, say put_key_in_box: say drop_key, place 2 = n, 201
        # 16 Open and close: a box that is not so
        begun: say close_box, say open_box, say open_box, say close_box, say open_lamp, say close_key = n, o, n, o, n, n
        # 16 Light: a lamp that is not lit, with fuel
        told, fuel 0 0, begin 0: say light_lamp, lit 0 = n, -1
        told, fuel 0 1, begin 0: say light_lamp, lit 0, say light_lamp = o, -1, n
        told, fuel 0 2, begin 0: say light_lamp, lit 0, say light_lamp = o, 1, n
        begun: say light_key, say light_box = n, n
        # 16 douse: one that is lit
        begun: say douse_lamp, say light_lamp, say douse_lamp, say douse_lamp, say douse_key = n, o, o, n, n
        # 16 Put: the first thing is carried, not in a box, and no box
        begun, say open_box: say put_key_in_box, say take_key, say put_key_in_box, say put_key_in_box = n, o, o, n
        begun, say open_box, say take_case: say put_case_in_box, say take_box, say put_box_in_box = n, o, n
        # 16 the second one is an open box
        begun, say take_key: say put_key_in_box, say put_key_in_lamp, say open_box, say put_key_in_box = n, n, o, o
        # 16 with less than 3 things
        new, word b, word c, word d, word e, word f, room false, thing 0 0 1 b, thing 1 0 1 p, thing 2 0 1 p, thing 3 0 1 p, \
        thing 4 0 1 p, begin 0, say open_b, say take_c, say take_d, say take_e, say take_f, say put_f_in_b, say put_e_in_b: \
        say put_d_in_b, say put_c_in_b, place 3, place 1, say take_f, say put_c_in_b = o, n, 200, 100, o, o
        # 16 Look and wait alone change nothing
        begun: checksum, say look, checksum, say wait, checksum = 3055503399769, o, 3055503399769, o, 3055503399769
        # 16 its parts being divided by one blank each
        begun: say _, say look_, say _look, say take__key, say go_n_, say take_, say put_key_in_, say = ?, ?, ?, ?, ?, ?, ?, ?
        # 16 nor if a noun is no word, or no word that is known: 'w'
        begun: say take_owl, say take_rune, say take_gem, say take_abcdefghi, say put_fern_in_owl, say put_owl_in_fern = w, w, w, w, w, w
        # 16 nor if a word that is named is no noun of a thing, or it cannot be done: 'n'
        begun: say take_fern, say put_fern_in_box, say drop_key, say put_key_in_fern = n, n, n, n
        # 16 in a dark room carried, or in an open box that is carried
        begun, say take_lamp, say go_n, say drop_lamp: isBright, say take_lamp, say look_lamp, say light_lamp = false, n, n, n
        begun, say take_lamp, say go_n: say look_lamp, say light_lamp, isBright = o, o, true
        begun, say take_key, say open_box, say take_box, say put_key_in_box, say go_n: say look_key, say drop_box, say look_key = o, o, n
        begun, say take_key, say open_box, say take_box, say put_key_in_box, say close_box, say go_n: say look_key, say look_box = n, o
        # 16 each lit lamp has 1 turn less, wherever it is, and is not lit any more without any
        told, fuel 0 3, begin 0, say light_lamp: lit 0, say go_n, lit 0, say wait, lit 0, say wait, lit 0 = 2, o, 1, o, -1, o, -1
        told, fuel 0 9, begin 0, say open_box, say take_lamp, say light_lamp, say put_lamp_in_box, say close_box: lit 0 = 6
        # 16 also behind what is bought, read or merged
        begun, say take_key, undo, say light_lamp: lit 0, buy 1, lit 0, read 1, lit 0, merge 1, lit 0 = 9, 3, 8, 4, 7, 1, 6
        # 16 or the one to which the same command has led from there already
        played, undo: say wait, node, undo, say look, node, undo, say look, node, nodes = o, 4, 0, o, 5, 0, o, 5, 6
        # 16 at most 80 nodes are numbered as they come
        eighty: nodes, node, say go_w, say take_owl, say nonsense, say, nodes = 80, 79, n, w, ?, ?, 80
        eighty, undo, undo: say wait, clear, node, redo 0, node = throws java.lang.IllegalStateException, 4, 77, 78, 78
        eighty, name end, undo, undo, undo, name far: jump end, node, jump far, node = 79, 79, 76, 76
        # 18 Returns the room, 100 if it is carried, 200 and the box if it is in one.
        begun, say take_key, say open_case: place 0, place 4, place 2, say put_key_in_case, place 2 = 0, 1, 100, o, 205
        # 20 Returns the turns, less than 0 by 1 more than these if it is not lit.
        told, fuel 0 0, begin 0: lit 0 = -1
        told, fuel 0 99, begin 0: lit 0, say light_lamp, lit 0, say douse_lamp, lit 0 = -100, o, 98, o, -99
        # 22 Returns the weight of all that is carried, with what is in boxes.
        begun: weight = 0
        begun, say take_key, say open_box, say put_key_in_box: weight, say take_box, weight, say close_box, weight = 0, o, 4, o, 4
        # 48 things that lie in their rooms, not in boxes
        told, goal 2 0, begin 0: score, say take_key, score, say open_box, say put_key_in_box, score = 1, o, 0, o, o, 0
        new, room false, begin 0: score = 0
        # 49 the least number of exits on a way to a room, with what is carried now
        begun: steps 0, steps 1, say take_key, steps 2, say go_n, steps 2, steps 1 = 0, 1, o, 1, o, 2, 0
        # 50 start for the node 0
        new, room false, begin 0: line, signOf 0, signOf 4, signOf 5 = 6, s, t, :
        # 50 the nouns of what is carried, not in boxes, by rising things, each with a blank ahead
        begun, say take_key, say take_lamp: line, signOf 9, signOf 10, signOf 11, signOf 14, signOf 15, signOf 18 = 19, :,  , l, p,  , y
        begun, say take_key, say open_box, say put_key_in_box: line = 15
        # 50 buy, read or merge, a blank, and the number for these
        played, undo: redo 1, redo 0, line, signOf 4, signOf 5 = 2, 3, 6, 0, :
        played, undo, merge 1: line, signOf 0, signOf 6, signOf 7, signOf 11 = 12, m, 1, :, y
        poor, undo, read 2: line, signOf 0, signOf 5 = 7, r, 2
        # 52 Returns 7 at first, then 31 times itself plus the room
        new, room false, room false, begin 1: checksum = 218
        # 52 plus 1000 if it is an open box, or a lit lamp, plus 10000 times the fuel of a lamp
        new, word a, word b, room false, thing 0 0 1 l, thing 1 0 1 b, begin 0, say light_a: checksum = 3029537
        new, word a, word b, room false, thing 0 0 1 l, thing 1 0 1 b, begin 0, say open_b, say take_b: checksum = 3309637
        most, begin 11: checksum = 3587087411091157796
        """;

    private static final String NODES = """
        # 25 Returns the parent.
        played: parent 1, parent 2, parent 3, parent 4 = 0, 0, 2, 0
        eighty: parent 79 = 78
        # 26 Returns how many commands lead to a node.
        begun: depth 0 = 0
        played: depth 1, depth 3 = 1, 2
        eighty: depth 79 = 78
        # 27 Returns how many children a node has.
        begun: children 0 = 0
        played: children 0, children 2, children 3 = 3, 1, 0
        eighty: children 79 = 0
        # 28 another one, or the same
        played: common 3 3, common 3 2, common 2 3, common 1 3, common 0 0 = 3, 2, 2, 0, 0
        eighty: common 79 1, common 79 78 = 0, 78
        # 30 the index among the children, from 0
        played, undo: redo 0, undo, redo 2, undo, redo 1 = 1, 0, 4, 0, 2
        # 31 a row of 1 to 8 letters
        begun: name a, name abcdefgh = 1, 1
        # 31 a name it had is gone
        played, name end, name fin: jump root, jump fin, jump end, node = 0, 4, throws java.util.NoSuchElementException, 4
        # 31 Returns how many nodes have names.
        played: name end, name end, name fin, undo, name start = 3, 3, 3, 0, 3
        # 32 Goes to the node of the name that is typed.
        played: jump home, jump home, node = 1, 1, 1
        # 33 A word is known at a node if some node of its path has shown it.
        played: isKnown 4, jump root, redo 1, isKnown 4, redo 0, isKnown 4, say wait, isKnown 4 = false, 0, 2, false, 3, true, o, true
        # 34 Returns how many words are known.
        new, room false, begin 0: known = 0
        most, begin 11: known = 12
        # 35 Returns the first node of the path that has shown a word.
        begun, say look_key, say look_key: learnt 8, learnt 6 = 1, 0
        # 36 Its postings are all nodes of the tree that have shown it.
        played: postings 4, postings 6, postings 8 = 1, 5, 0
        told: postings 0 = 0
        # 37 the index, from 0, by rising nodes
        played: posting 4 0, posting 6 0, posting 6 4 = 3, 0, 4
        # 38 those with fewer postings first, of several by rising numbers
        begun: rare 0, rare 1, rare 2, rare 3, rare 4 = 0, 1, 2, 5, 6
        begun, say look_key: rare 0, rare 1, rare 5 = 8, 0, 6
        begun, say take_lamp, say go_n: rare 0, rare 3, rare 4 = 1, 6, 0
        # 53 divided by that of all words
        begun: knownShare = 0.5555556
        new, word a, room false, begin 0: knownShare = 0.0
        new, word a, room false, show 0 0, begin 0: knownShare = 1.0
        """;

    private static final String SHOP = """
        # 39 the base times how many of its words are not known
        begun: price 0, price 1 = 40, 14
        begun, teach 0 8: price 0 = 60
        # 39 times 2.0 less the share of nodes that have shown a word of it or more
        told, teach 1 0, begin 0: price 1 = 7
        played: price 0 = 36
        # 39 all in floats, cast to int
        told, hint 3, teach 4 8, begin 0, say look_key, say wait, undo, undo: price 4 = 5
        told, hint 3, teach 4 8, begin 0, say look_key, say look_key, undo, undo: price 4 = 3
        # 39 0 if all its words are known
        begun: price 3, price 2 = 0, 0
        # 40 it is sold at a new child of the node, which shows all its words, too
        begun: buy 0, node, parent 1, posting 4 0, posting 7 0, postings 6 = 1, 1, 0, 1, 1, 2
        # 40 coins are paid for good
        poor: coins, undo, coins = 5, 0, 5
        # 40 if there are not so many coins
        poor, earn 35: buy 0, coins = 2, 0
        begun, teach 2 8: buy 2, coins = 1, 5
        # 41 It is owned at a node if it was sold at a node of the path, or at a node of whose path this one is.
        played: isOwned 0, undo, isOwned 0, redo 1, isOwned 0, redo 0, isOwned 0 = false, 0, true, 2, true, 3, true
        played, jump root, redo 1, redo 0, say wait: isOwned 0, undo, undo, say look, isOwned 0 = true, 3, 2, o, false
        # 42 One that is owned, also by a sale behind this node, can be read, which is a command
        played, undo: read 0, parent 5, undo, read 0, undo, redo 3, nodes = 5, 0, 0, 5, 0, 5, 6
        eighty, undo: read 1, node = 79, 79
        # 43 There are 100 coins at first.
        new: coins = 100
        # 44 how many, 1 to 99
        new: earn 1, earn 99, coins = 101, 200, 200
        # 45 Returns how many hints were sold.
        new: sales = 0
        played: sales = 1
        # 46 the index, from 0, as they were sold
        poor, earn 40, buy 0: sale 0 h, sale 0 n, sale 0 c, sale 1 h, sale 1 n, sale 1 c = 2, 1, 100, 0, 2, 40
        # 54 both converted to double
        poor, earn 40, buy 0: meanPrice = 70.0
        begun, buy 1, buy 0, undo, undo, say wait, buy 1: meanPrice = 22.0
        # 47 by rising numbers, each one that can be taken, until no more can; at least one
        played, undo: merge 1, place 2, weight = 1, 100, 1
        told, thing 6 0 9 p, begin 0, say take_lamp, say take_key, undo, undo, say take_fern: merge 2, weight = 2, 12
        told, thing 6 0 9 p, begin 0, say take_lamp, say take_box, undo, undo, say take_fern: merge 2, weight, place 1 = 1, 11, 0
        told, thing 6 0 9 p, begin 0, say take_box, say take_case, undo, undo, say take_fern: merge 2, weight, place 5 = 1, 12, 0
        # 47 things that are carried there, not in boxes, and lie here in the room of the player
        begun, say open_box, say take_key, say put_key_in_box, say take_box, name box, undo, undo, undo, undo: merge 4, place 1, place 2 = 1, 100, 0
        begun, say take_key, say go_e, undo, undo, say go_n: merge 1 = throws java.lang.UnsupportedOperationException
        # 47 which has to be bright
        begun, say take_key, say go_n, say drop_key: isBright, merge 1 = false, throws java.lang.UnsupportedOperationException
        # 47 a further node would be needed, and there are 80
        eighty, undo: merge 0, merge 1 = throws java.lang.UnsupportedOperationException, throws java.lang.IllegalStateException
        begun, say take_key, undo, merge 1, undo, buy 1, name end, read 1, undo: merge 1, undo, merge 1, node, nodes = 1, 3, 1, 5, 6
        # 55 Returns whether so.
        new: isSound = true
        played: isSound = true
        eighty: isSound = true
        poor, undo, earn 99: isSound = true
        """;

    public static void main(String[] args) {
        for (String rows : new String[] {TEXTS, WORLD, STATES, NODES, SHOP}) {
            check(rows);
        }
        Check.end();
    }

    private static void check(String rows) {
        int promise = 0;
        for (String row : rows.lines().toList()) {
            if (row.startsWith("#")) {
                promise = Integer.parseInt(row.split(" ")[1]);
            } else {
                int colon = row.indexOf(": ");
                int equals = row.lastIndexOf(" = ");
                Script x = new Script();
                x.run(Scenes.callsOf(row.substring(0, colon)));
                Check.due(promise, row, row.substring(equals + 3), () -> x.run(row.substring(colon + 2, equals)));
            }
        }
    }
}
