/** "Terms", PART 2, and promises 5 to 14, sentence by sentence. */
public final class GameEdgesTest {
    private static final Check CHECK = new Check();
    private static final int[] FAR = {Integer.MIN_VALUE, -1024, -2, 1 << 10, 1 << 16, 1 << 30, Integer.MAX_VALUE};
    private static final String SIX_BLOCKS = "all a b;some c d e;all f;some g h;all i;some j";

    public static void main(String[] args) {
        numbered();
        knowingWhatWasChosen();
        whoWins();
        movesAreBits();
        sizesOfMoves();
        theGameAtHand();
        moveWinsByWhatIsLeft();
        ownMemory();
        truth();
        turn();
        leastMove();
        moveNone();
        winsNone();
        moves();
        playTrue();
        playFalse();
        undoIt();
        undoNone();
        fixedAhead();
        noneOfItsBlock();
        fixedPlayed();
        fixedNone();
        turned();
        turnedOfAll();
        turnedNone();
        models();
        modelsNotPlayed();
        CHECK.end();
    }

    private static void numbered() {
        CHECK.sentence("PART 2: NAMES are numbered as they stand in BLOCKS");
        ChoiceGame x = Check.of("some z b;all a9;all y;some c0:c0&y&b");
        int[] codes = {'z', 'b', 'a' + 256 * 10, 'y', 'c' + 256};
        for (int k = 0; k < codes.length; k++) {
            CHECK.due("name " + k, x.look(20 + k), codes[k]);
        }
        CHECK.due("no more", x.look(25), -1);
    }

    private static void knowingWhatWasChosen() {
        CHECK.sentence("PART 2: SOME and ALL choose, BLOCK by BLOCK, .. knowing what was chosen before");
        CHECK.due("all knows a", Check.of("some a;all b:a=b").truth(), 0);
        CHECK.due("some knows b", Check.of("all b;some a:a=b").truth(), 1);
        CHECK.due("some knows b, not c", Check.of("all b;some a;all c:a=c").truth(), 0);
        CHECK.due("some knows both", Check.of("all b;some d;all c;some a:(a=(b=c))").truth(), 1);
        // In one block nobody waits for another: the names are chosen at once.
        CHECK.due("both are some's", Check.of("some a b:a=b").truth(), 1);
        CHECK.due("both are all's", Check.of("all a b:a^b").truth(), 0);
    }

    private static void whoWins() {
        CHECK.sentence("PART 2: SOME wins if the FORMULA has the value 1 then, else ALL does");
        ChoiceGame x = Check.of("some a;all b:a&b");
        for (int bits = 0; bits < 4; bits++) {
            x.play(bits >> 1);
            x.play(bits & 1);
            CHECK.due("the value of " + bits, x.truth(), bits == 3 ? 1 : 0);
            x.undo();
            x.undo();
        }
        CHECK.sentence("PART 2: One of them WINS THE GAME");
        for (String text : new String[] {"some a;all b:a|b", "some a;all b:a&b", "all a;some b:a&b", "all a;some b:a|b"}) {
            ChoiceGame y = Check.of(text);
            boolean turnWins = y.truth() == 1 == (y.turn() == 0);
            CHECK.due(text + ": he whose turn it is has a move if he wins", y.move() != -1, turnWins);
            CHECK.due(text + ": and moves that win", y.moves() > 0, turnWins);
        }
    }

    private static void movesAreBits() {
        CHECK.sentence("PART 2: A MOVE is a number: the values of a BLOCK's NAMES as bits, the first NAME's the highest");
        ChoiceGame x = Check.of("all p;some a b c;all q:1");
        x.play(0);
        for (int m = 0; m < 8; m++) {
            CHECK.due("play(" + m + ")", x.play(m), true);
            CHECK.due("a of " + m, x.look(61), m >> 2);
            CHECK.due("b of " + m, x.look(62), m >> 1 & 1);
            CHECK.due("c of " + m, x.look(63), m & 1);
            CHECK.due("p stays", x.look(60), 0);
            CHECK.due("undo", x.undo(), m);
        }
        CHECK.due("a alone", Check.of("some a b c:a&!b&!c").move(), 4);
        CHECK.due("b alone", Check.of("some a b c:!a&b&!c").move(), 2);
        CHECK.due("c alone", Check.of("some a b c:!a&!b&c").move(), 1);
        CHECK.due("the first of ten", Check.of("some a b c d e f g h i j:a").move(), 512);
        CHECK.due("the last of ten", Check.of("some a b c d e f g h i j:j").move(), 1);
    }

    private static void sizesOfMoves() {
        CHECK.sentence("PART 2: A MOVE is a number (from 0 to the greatest of each size)");
        StringBuilder names = new StringBuilder();
        for (int size = 1; size <= 10; size++) {
            names.append(' ').append((char) ('a' + size - 1));
            ChoiceGame x = Check.of("some" + names + ":1");
            int greatest = (1 << size) - 1;
            CHECK.due("wins(0) of " + size, x.wins(0), 1);
            CHECK.due("wins of the greatest of " + size, x.wins(greatest), 1);
            CHECK.due("wins of one more", x.wins(greatest + 1), -1);
            CHECK.due("wins(-1)", x.wins(-1), -1);
            CHECK.due("moves of " + size, x.moves(), greatest + 1);
            CHECK.due("play of one more", x.play(greatest + 1), false);
            CHECK.due("play(-1)", x.play(-1), false);
            CHECK.due("none was played", x.look(2), 0);
            CHECK.due("play of the greatest", x.play(greatest), true);
            CHECK.due("undo of the greatest", x.undo(), greatest);
            CHECK.due("play(0)", x.play(0), true);
            CHECK.due("undo of 0", x.undo(), 0);
        }
    }

    private static void theGameAtHand() {
        CHECK.sentence("PART 2: THE GAME AT HAND is what is left when some BLOCKS were played; its first BLOCK is that which is to be played next");
        ChoiceGame x = Check.of(SIX_BLOCKS + ":(a=c)&(b=d)&(f=g)&(i=j)&(e|h)");
        int[] moves = {2, 5, 1, 2, 0, 0};
        int[] counts = {0, 2, 0, 2, 0, 1};
        for (int b = 0; b < 6; b++) {
            CHECK.due("turn at block " + b, x.turn(), 1 - b % 2);
            CHECK.due("truth at block " + b, x.truth(), 1);
            CHECK.due("moves at block " + b, x.moves(), counts[b]);
            CHECK.due("play at block " + b, x.play(moves[b]), true);
            CHECK.due("played", x.look(2), b + 1);
        }
        CHECK.due("the value at the end", x.truth(), 1);
        CHECK.due("nobody's turn", x.turn(), -1);
    }

    private static void moveWinsByWhatIsLeft() {
        CHECK.sentence("PART 2: A MOVE WINS if the one whose it is WINS what is left behind it");
        String[] texts = {"some a b;all c;some d:a&(b^c^d)", "all a b;some c;all d:(a|c)&(b^d)|c&d", "some a b;all c d:(a=c)|(b>d)",
            "all a;some b c:a&b^c", "some a b c:a^b^c"};
        for (String text : texts) {
            ChoiceGame x = Check.of(text);
            checkMoves(text, x);
            x.play(1);
            checkMoves(text + " behind move 1", x);
        }
    }

    private static void checkMoves(String what, ChoiceGame x) {
        int turn = x.turn();
        int winning = 0;
        int least = -1;
        int before = x.look(2);
        for (int m = 0; m < 8 && turn >= 0; m++) {
            int wins = x.wins(m);
            int behind = -1;
            if (x.play(m)) {
                behind = x.truth() == 1 - turn ? 1 : 0;
                x.undo();
            }
            CHECK.due(what + ": wins(" + m + ")", wins, behind);
            winning += wins == 1 ? 1 : 0;
            least = wins == 1 && least < 0 ? m : least;
        }
        CHECK.due(what + ": moves", x.moves(), turn < 0 ? -1 : winning);
        CHECK.due(what + ": move", x.move(), least);
        CHECK.due(what + ": played as before", x.look(2), before);
    }

    private static void ownMemory() {
        CHECK.sentence("PART 2: All memory is the solver's own");
        ChoiceGame x = Check.of("some a;all b:a&b");
        ChoiceGame y = Check.of("all c d;some e2:c|d|e2");
        Check.feed(x, ":0");
        x.play(1);
        CHECK.due("the other's tape", y.look(3), 0);
        CHECK.due("the other's blocks", y.look(2), 0);
        CHECK.due("the other's turn", y.turn(), 1);
        y.play(0);
        CHECK.due("the other's truth", y.truth(), 1);
        CHECK.due("truth", x.truth(), 0);
        CHECK.due("the other's formula", Check.written(y), "c|d|e2");
        CHECK.due("nothing was written", x.octet(0), -1);
        CHECK.due("undo", x.undo(), 1);
        CHECK.due("the other's undo", y.undo(), 0);
        CHECK.due("a third object is new", new ChoiceGame().look(0), 0);
    }

    private static void truth() {
        CHECK.sentence("Promise 5: Whether SOME WINS THE GAME AT HAND: 1, else 0");
        CHECK.due("without blocks, 1", Check.of(":1").truth(), 1);
        CHECK.due("without blocks, 0", Check.of(":0").truth(), 0);
        CHECK.due("some loses", Check.of("some a:a&!a").truth(), 0);
        CHECK.due("some wins", Check.of("some a:a").truth(), 1);
        CHECK.due("all loses", Check.of("all a:a|!a").truth(), 1);
        CHECK.due("all wins", Check.of("all a:a").truth(), 0);
        ChoiceGame x = Check.of("some a;all b:a");
        CHECK.due("at first", x.truth(), 1);
        x.play(0);
        CHECK.due("behind the wrong move", x.truth(), 0);
        x.undo();
        x.play(1);
        CHECK.due("behind the right one", x.truth(), 1);
        x.play(0);
        CHECK.due("when all were played", x.truth(), 1);
        // Six, seven and ten names: a word of 64 ways, two, sixteen.
        CHECK.due("six", Check.of("all a b c;some d e f:(a=d)&(b=e)&(c=f)").truth(), 1);
        CHECK.due("seven", Check.of("all a b c;some d e f;all g:(a=d)&(b=e)&(c=f)&g").truth(), 0);
        CHECK.due("ten", Check.of("all a b c d e;some f g h i j:(a=f)&(b=g)&(c=h)&(d=i)&(e=j)").truth(), 1);
        CHECK.due("ten, all last", Check.of("some a b c d e;all f g h i j:(a=f)|(b=g)|(c=h)|(d=i)|(e=j)").truth(), 0);
    }

    private static void turn() {
        CHECK.sentence("Promise 6: Whose the next BLOCK is: 0 SOME, 1 ALL; NONE if all were played");
        ChoiceGame x = Check.of("some a;all b c:1");
        CHECK.due("some's", x.turn(), 0);
        x.play(0);
        CHECK.due("all's", x.turn(), 1);
        x.play(0);
        CHECK.due("all were played", x.turn(), -1);
        x.undo();
        CHECK.due("all's again", x.turn(), 1);
        CHECK.due("all begins", Check.of("all a:1").turn(), 1);
        CHECK.due("no block", Check.of(":1").turn(), -1);
    }

    private static void leastMove() {
        CHECK.sentence("Promise 7: The least MOVE that WINS for the one whose turn it is");
        CHECK.due("0 of all four", Check.of("some a b:1").move(), 0);
        CHECK.due("1 of 1 and 3", Check.of("some a b:b").move(), 1);
        CHECK.due("2 of 2 and 3", Check.of("some a b:a").move(), 2);
        CHECK.due("3 alone", Check.of("some a b:a&b").move(), 3);
        CHECK.due("all's 0 of 0, 1, 2", Check.of("all a b:a&b").move(), 0);
        CHECK.due("all's 1", Check.of("all a b:a|!b").move(), 1);
        CHECK.due("all's 3", Check.of("all a b:!a|!b").move(), 3);
        CHECK.due("the greatest of ten names", Check.of("some a b c d e f g h i j:a&b&c&d&e&f&g&h&i&j").move(), 1023);
        CHECK.due("all's greatest", Check.of("all a b c d e f g h i j:!(a&b&c&d&e&f&g&h&i&j)").move(), 1023);
    }

    private static void moveNone() {
        CHECK.sentence("Promise 7: NONE if none does, or all were played");
        CHECK.due("none does for some", Check.of("some a b:0").move(), -1);
        CHECK.due("none does for all", Check.of("all a b:1").move(), -1);
        CHECK.due("without a block, 1", Check.of(":1").move(), -1);
        CHECK.due("without a block, 0", Check.of(":0").move(), -1);
        ChoiceGame x = Check.of("some a;all b:a|b");
        CHECK.due("some's", x.move(), 1);
        x.play(1);
        CHECK.due("none does for all behind it", x.move(), -1);
        x.play(1);
        CHECK.due("all were played", x.move(), -1);
    }

    private static void winsNone() {
        CHECK.sentence("Promise 8: Whether MOVE m WINS for him: 1, 0; NONE: there is no such MOVE");
        ChoiceGame x = Check.of("some a b;all c:a&(b|c)");
        int[] due = {-1, 0, 0, 0, 1, -1};
        for (int m = -1; m <= 4; m++) {
            CHECK.due("wins(" + m + ")", x.wins(m), due[m + 1]);
        }
        for (int m : FAR) {
            CHECK.due("wins(" + m + ")", x.wins(m), -1);
        }
        x.play(2);
        CHECK.due("all's 0", x.wins(0), 1);
        CHECK.due("all's 1", x.wins(1), 0);
        CHECK.due("all's 2", x.wins(2), -1);
        CHECK.due("all's -1", x.wins(-1), -1);
        x.play(0);
        CHECK.due("all were played", x.wins(0), -1);
        CHECK.due("without a block", Check.of(":1").wins(0), -1);
    }

    private static void moves() {
        CHECK.sentence("Promise 9: How many MOVES WIN for him; NONE if all were played");
        CHECK.due("all of some's", Check.of("some a b:1").moves(), 4);
        CHECK.due("none of some's", Check.of("some a b:0").moves(), 0);
        CHECK.due("all of all's", Check.of("all a b:0").moves(), 4);
        CHECK.due("none of all's", Check.of("all a b:1").moves(), 0);
        CHECK.due("all of ten names", Check.of("some a b c d e f g h i j:1").moves(), 1024);
        CHECK.due("one of ten names", Check.of("all a b c d e f g h i j:a|b|c|d|e|f|g|h|i|j").moves(), 1);
        CHECK.due("without a block", Check.of(":1").moves(), -1);
        ChoiceGame x = Check.of("some a:0");
        CHECK.due("none wins", x.moves(), 0);
        x.play(1);
        CHECK.due("all were played", x.moves(), -1);
        x.undo();
        CHECK.due("none wins again", x.moves(), 0);
    }

    private static void playTrue() {
        CHECK.sentence("Promise 10: MOVE m is played: true");
        ChoiceGame x = Check.of("some a b;all c:a&b&c");
        CHECK.due("a move that loses may be played", x.play(0), true);
        CHECK.due("it is played", x.look(2), 1);
        CHECK.due("a", x.look(60), 0);
        CHECK.due("b", x.look(61), 0);
        CHECK.due("c", x.look(62), -1);
        CHECK.due("the last", x.play(1), true);
        CHECK.due("c", x.look(62), 1);
    }

    private static void playFalse() {
        CHECK.sentence("Promise 10: false: there is none such");
        ChoiceGame x = Check.of("some a b;all c:a&b&c");
        CHECK.due("play(-1)", x.play(-1), false);
        CHECK.due("play(4)", x.play(4), false);
        for (int m : FAR) {
            CHECK.due("play(" + m + ")", x.play(m), false);
        }
        CHECK.due("none was played", x.look(2), 0);
        CHECK.due("play(3)", x.play(3), true);
        CHECK.due("play(2), all's", x.play(2), false);
        CHECK.due("play(1), all's", x.play(1), true);
        CHECK.due("all were played", x.play(0), false);
        CHECK.due("two, still", x.look(2), 2);
        CHECK.due("without a block", Check.of(":1").play(0), false);
        ChoiceGame six = Check.of("some a;all b;some c;all d;some e;all f:1");
        for (int b = 0; b < 6; b++) {
            CHECK.due("block " + b, six.play(b % 2), true);
        }
        CHECK.due("a seventh", six.play(0), false);
        CHECK.due("six, still", six.look(2), 6);
    }

    private static void undoIt() {
        CHECK.sentence("Promise 11: The latest MOVE is taken back: it");
        ChoiceGame x = Check.of(SIX_BLOCKS + ":a");
        int[] moves = {3, 6, 0, 2, 1, 0};
        for (int m : moves) {
            x.play(m);
        }
        for (int b = 5; b >= 0; b--) {
            CHECK.due("undo of block " + b, x.undo(), moves[b]);
            CHECK.due("played", x.look(2), b);
            CHECK.due("turn", x.turn(), 1 - b % 2);
            CHECK.due("a", x.look(60), b > 0 ? 1 : -1);
        }
        x.play(2);
        x.play(7);
        CHECK.due("other moves", x.undo(), 7);
        CHECK.due("d has no value any more", x.look(63), -1);
        CHECK.due("b has", x.look(61), 0);
        x.play(1);
        CHECK.due("another in its place", x.undo(), 1);
        CHECK.due("and the first", x.undo(), 2);
    }

    private static void undoNone() {
        CHECK.sentence("Promise 11: NONE without");
        ChoiceGame x = new ChoiceGame();
        CHECK.due("a new object", x.undo(), -1);
        Check.read(x, "some a;all b:a");
        CHECK.due("a new game", x.undo(), -1);
        x.play(0);
        CHECK.due("a move of 0 is one", x.undo(), 0);
        CHECK.due("none is left", x.undo(), -1);
        x.play(5);
        CHECK.due("a refused move is none", x.undo(), -1);
        x.play(1);
        Check.read(x, "some a:a");
        CHECK.due("a move of the former game is none", x.undo(), -1);
    }

    private static void fixedAhead() {
        CHECK.sentence("Promise 12: Whether SOME WINS THE GAME AT HAND with the NAME k fixed to a value (0, 1) ahead");
        ChoiceGame x = Check.of("some a;all b;some c:(a=b)&c");
        int[][] due = {{0, 0}, {1, 1}, {0, 0}};
        for (int k = 0; k < 3; k++) {
            for (int value = 0; value < 2; value++) {
                CHECK.due("fixed(" + k + ", " + value + ")", x.fixed(k, value), due[k][value]);
            }
        }
        ChoiceGame y = Check.of("some a;all b:a&b");
        CHECK.due("b fixed to 0", y.fixed(1, 0), 0);
        CHECK.due("b fixed to 1", y.fixed(1, 1), 1);
        CHECK.due("a fixed to 1", y.fixed(0, 1), 0);
        CHECK.due("as it was", y.truth(), 0);
        y.play(1);
        CHECK.due("b fixed to 1 behind a = 1", y.fixed(1, 1), 1);
        y.undo();
        y.play(0);
        CHECK.due("b fixed to 1 behind a = 0", y.fixed(1, 1), 0);
        CHECK.due("b has no value by that", y.look(61), -1);
        ChoiceGame ten = Check.of("all a b c d e f g h i j:a|b|c|d|e|f|g|h|i|j");
        for (int k = 0; k < 10; k++) {
            CHECK.due("name " + k + " of ten to 0", ten.fixed(k, 0), 0);
            CHECK.due("name " + k + " of ten to 1", ten.fixed(k, 1), 1);
        }
    }

    private static void noneOfItsBlock() {
        CHECK.sentence("Promise 12: (it is none of its BLOCK then");
        ChoiceGame x = Check.of("all a b;some c:(a=c)&(b|c)");
        CHECK.due("truth", x.truth(), 0);
        CHECK.due("b to 1: a is all's still", x.fixed(1, 1), 1);
        CHECK.due("b to 0: a is all's still", x.fixed(1, 0), 0);
        CHECK.due("a to 1", x.fixed(0, 1), 1);
        CHECK.due("a to 0", x.fixed(0, 0), 0);
        CHECK.due("the block has both, still", x.look(10), 2);
        // A block of that one name has nothing left to choose.
        ChoiceGame y = Check.of("some a:a");
        CHECK.due("a to 0", y.fixed(0, 0), 0);
        CHECK.due("a to 1", y.fixed(0, 1), 1);
        CHECK.due("the turn is some's, still", y.turn(), 0);
    }

    private static void fixedPlayed() {
        CHECK.sentence("Promise 12: one that was played has that value)");
        ChoiceGame x = Check.of("some a b;all c;some d:a&!b&(c=d)");
        x.play(3);
        CHECK.due("truth", x.truth(), 0);
        CHECK.due("b, played 1, to 0", x.fixed(1, 0), 1);
        CHECK.due("b to 1", x.fixed(1, 1), 0);
        CHECK.due("a, played 1, to 0", x.fixed(0, 0), 0);
        CHECK.due("b is 1 as it was played", x.look(61), 1);
        x.undo();
        x.play(2);
        CHECK.due("a to 1, as it was played", x.fixed(0, 1), 1);
        CHECK.due("a to 0", x.fixed(0, 0), 0);
        x.play(1);
        x.play(1);
        CHECK.due("all were played", x.truth(), 1);
        CHECK.due("c to 0 then", x.fixed(2, 0), 0);
        CHECK.due("c to 1 then", x.fixed(2, 1), 1);
        CHECK.due("d to 0 then", x.fixed(3, 0), 0);
        CHECK.due("a to 0 then", x.fixed(0, 0), 0);
        CHECK.due("the moves are as they were", x.undo(), 1);
    }

    private static void fixedNone() {
        CHECK.sentence("Promise 12: NONE: no such NAME, value");
        ChoiceGame x = Check.of("some a b;all c:a|b|c");
        for (int played = 0; played <= 2; played++) {
            CHECK.due("name -1", x.fixed(-1, 0), -1);
            CHECK.due("name 0", x.fixed(0, 1), 1);
            CHECK.due("name 2", x.fixed(2, 1), 1);
            CHECK.due("name 3", x.fixed(3, 1), -1);
            CHECK.due("value -1", x.fixed(0, -1), -1);
            CHECK.due("value 2", x.fixed(0, 2), -1);
            CHECK.due("value 2 of the last", x.fixed(2, 2), -1);
            CHECK.due("neither", x.fixed(3, 2), -1);
            for (int far : FAR) {
                CHECK.due("name " + far, x.fixed(far, 1), -1);
                CHECK.due("value " + far, x.fixed(1, far), -1);
            }
            x.play(1);
        }
        ChoiceGame ten = Check.of("some a b c d e f g h i j:1");
        CHECK.due("name 9 of ten", ten.fixed(9, 0), 1);
        CHECK.due("name 10 of ten", ten.fixed(10, 0), -1);
        CHECK.due("no name at all", Check.of(":1").fixed(0, 0), -1);
    }

    private static void turned() {
        CHECK.sentence("Promise 13: Whether SOME WINS THE GAME AT HAND if BLOCK b .. were the other one's: 1, 0");
        ChoiceGame x = Check.of("some a;all b;some c:(a=b)&c");
        CHECK.due("truth", x.truth(), 0);
        CHECK.due("a is all's", x.turned(0), 0);
        CHECK.due("b is some's", x.turned(1), 1);
        CHECK.due("c is all's", x.turned(2), 0);
        CHECK.due("as it was", x.truth(), 0);
        CHECK.due("the turn is some's", x.turn(), 0);
        CHECK.due("the whole block, to all", Check.of("some a b:a|b").turned(0), 0);
        CHECK.due("the whole block, to some", Check.of("all a b:a&b").turned(0), 1);
        CHECK.due("that block alone, of two of all's", Check.of("all a;some b;all c:a&c").turned(0), 0);
        CHECK.due("that block alone, of two of some's", Check.of("some a;all b;some c:a|c").turned(2), 1);
    }

    private static void turnedOfAll() {
        CHECK.sentence("Promise 13: BLOCK b (from 0, of all)");
        ChoiceGame x = Check.of("some a;all b;some c;all d:a&b&c&d|!a&(b|d)");
        CHECK.due("b 1: b is some's", x.turned(1), 1);
        CHECK.due("b 3: d is some's", x.turned(3), 1);
        x.play(1);
        CHECK.due("b 1 behind a move", x.turned(1), 0);
        CHECK.due("b 3 behind a move", x.turned(3), 0);
        x.play(1);
        CHECK.due("b 3 behind two: d is some's", x.turned(3), 1);
        CHECK.due("b 2 behind two: c is all's", x.turned(2), 0);
    }

    private static void turnedNone() {
        CHECK.sentence("Promise 13: NONE: no such BLOCK, or it was played");
        ChoiceGame x = Check.of("some a;all b c;some d:1");
        for (int played = 0; played <= 3; played++) {
            CHECK.due("turned(-1)", x.turned(-1), -1);
            for (int b = 0; b < 3; b++) {
                CHECK.due("turned(" + b + ") behind " + played, x.turned(b), b < played ? -1 : 1);
            }
            CHECK.due("turned(3)", x.turned(3), -1);
            for (int far : FAR) {
                CHECK.due("turned(" + far + ")", x.turned(far), -1);
            }
            x.play(0);
        }
        x.undo();
        CHECK.due("a block whose move was taken back", x.turned(2), 1);
        CHECK.due("no block at all", Check.of(":1").turned(0), -1);
        ChoiceGame six = Check.of("some a;all b;some c;all d;some e;all f:0");
        CHECK.due("the sixth", six.turned(5), 0);
        CHECK.due("a seventh", six.turned(6), -1);
    }

    private static void models() {
        CHECK.sentence("Promise 14: How many ways to choose values .. give the FORMULA the value 1");
        StringBuilder names = new StringBuilder();
        CHECK.due("no name, 1", Check.of(":1").models(), 1);
        CHECK.due("no name, 0", Check.of(":0").models(), 0);
        for (int n = 1; n <= 10; n++) {
            names.append(' ').append((char) ('a' + n - 1));
            CHECK.due(n + " names, 1", Check.of("all" + names + ":1").models(), 1 << n);
            CHECK.due(n + " names, 0", Check.of("all" + names + ":0").models(), 0);
            CHECK.due(n + " names, the first", Check.of("some" + names + ":a").models(), 1 << n - 1);
            CHECK.due(n + " names, not the first", Check.of("some" + names + ":!a").models(), 1 << n - 1);
        }
        CHECK.due("whoever chooses", Check.of("some a;all b:a|b").models(), 3);
    }

    private static void modelsNotPlayed() {
        CHECK.sentence("Promise 14: of all NAMES that are not played");
        ChoiceGame x = Check.of(SIX_BLOCKS + ":a|j");
        CHECK.due("of ten names", x.models(), 768);
        x.play(1);
        CHECK.due("a is 0", x.models(), 128);
        x.undo();
        x.play(2);
        CHECK.due("a is 1", x.models(), 256);
        int[] sizes = {3, 1, 2, 1, 1};
        int ways = 256;
        for (int size : sizes) {
            x.play(0);
            ways >>= size;
            CHECK.due("behind a block of " + size, x.models(), ways);
        }
        CHECK.due("all were played", x.look(2), 6);
        ChoiceGame y = Check.of("some a:a");
        y.play(0);
        CHECK.due("all were played, 0", y.models(), 0);
        y.undo();
        y.play(1);
        CHECK.due("all were played, 1", y.models(), 1);
    }
}
