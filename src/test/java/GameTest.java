/** Promises 5 to 14: who wins, moves, games played on, names fixed, blocks turned, models. */
public final class GameTest {
    private static final Check CHECK = new Check();
    private static final int[] WRONG = {-1, -2, 1 << 10, 1 << 20, Integer.MIN_VALUE, Integer.MAX_VALUE};

    public static void main(String[] args) {
        values();
        truthTakesTurns();
        movesOfSome();
        movesOfAll();
        aLostTurn();
        playAndUndo();
        fixedNames();
        fixedPlayedNames();
        turnedBlocks();
        models();
        tenNames();
        CHECK.end();
    }

    private static void values() {
        String[] texts = {"0", "1", "!0", "!1", "1&1", "1&0", "0|1", "0|0", "1^1", "0^1", "1=1", "0=0", "0=1",
            "0>0", "0>1", "1>0", "1>1", "0>1>0", "(0>1)>0", "1^1^1", "0=0=0", "0=1=0", "1|1&0", "1^1&0", "1|1^1",
            "1>0|1", "0=1>0", "!0&0", "!(0&0)", "!!1", "1>1>0", "(1>0)>0"};
        int[] due = {0, 1, 1, 0, 1, 0, 1, 0, 0, 1, 1, 1, 0,
            1, 1, 0, 1, 1, 0, 1, 0, 1, 1, 1, 1,
            1, 1, 0, 1, 1, 0, 1};
        for (int i = 0; i < texts.length; i++) {
            CHECK.due("truth of " + texts[i], Check.of(":" + texts[i]).truth(), due[i]);
        }
    }

    private static void truthTakesTurns() {
        CHECK.due("some a all b", Check.of("some a;all b:a=b").truth(), 0);
        CHECK.due("all b some a", Check.of("all b;some a:a=b").truth(), 1);
        CHECK.due("some both", Check.of("some a b:a=b").truth(), 1);
        CHECK.due("all both", Check.of("all a b:a=b").truth(), 0);
        CHECK.due("all, sure", Check.of("all a b:a>b|!b").truth(), 1);
        CHECK.due("three", Check.of("some a;all b;some c:(a|b)&(b^c)").truth(), 1);
        CHECK.due("a name that the formula lacks", Check.of("some z;all a:a|!a").truth(), 1);
        CHECK.due("turn of some", Check.of("some a:a").turn(), 0);
        CHECK.due("turn of all", Check.of("all a:a").turn(), 1);
        CHECK.due("turn of nobody", Check.of(":1").turn(), -1);
    }

    private static void movesOfSome() {
        // The first name is the highest bit: a = 1, b = 0, c = any is 4 and 5.
        ChoiceGame x = Check.of("some a b c;all d:a&!b&(d|!d)");
        CHECK.due("move", x.move(), 4);
        CHECK.due("moves", x.moves(), 2);
        for (int m = 0; m < 8; m++) {
            CHECK.due("wins(" + m + ")", x.wins(m), m == 4 || m == 5 ? 1 : 0);
        }
        CHECK.due("wins(8)", x.wins(8), -1);
        for (int m : WRONG) {
            CHECK.due("wins(" + m + ")", x.wins(m), -1);
            CHECK.due("play(" + m + ")", x.play(m), false);
        }
        CHECK.due("play(8)", x.play(8), false);
        CHECK.due("nothing was played", x.look(2), 0);
        // Another game's blocks must not stay behind: wins() is the first call that asks here.
        Check.read(x, "all a;some b;all c:a&b|c");
        CHECK.due("wins(0) of a new game", x.wins(0), 1);
        CHECK.due("wins(1) of a new game", x.wins(1), 0);
        x.play(1);
        CHECK.due("behind a move", x.wins(1), 1);
        CHECK.due("behind a move", x.wins(0), 0);
    }

    private static void movesOfAll() {
        ChoiceGame x = Check.of("all a b;some c:(a|b)&(a^b^c)");
        CHECK.due("truth", x.truth(), 0);
        CHECK.due("turn", x.turn(), 1);
        CHECK.due("move", x.move(), 0);
        CHECK.due("moves", x.moves(), 1);
        CHECK.due("wins(0)", x.wins(0), 1);
        CHECK.due("wins(3)", x.wins(3), 0);
        ChoiceGame y = Check.of("all a b:!a|!b");
        CHECK.due("the least of one", y.move(), 3);
        ChoiceGame z = Check.of("all a b:a&b");
        CHECK.due("the least of three", z.move(), 0);
        CHECK.due("three", z.moves(), 3);
    }

    private static void aLostTurn() {
        ChoiceGame x = Check.of("some a b:a&!a");
        CHECK.due("no move wins", x.move(), -1);
        CHECK.due("none of them", x.moves(), 0);
        CHECK.due("wins(0)", x.wins(0), 0);
        ChoiceGame y = Check.of("all a b:a|!a");
        CHECK.due("no move wins for all", y.move(), -1);
        CHECK.due("none of all's", y.moves(), 0);
    }

    private static void playAndUndo() {
        ChoiceGame x = Check.of("some a b;all c;some d:a&(b^c^d)");
        CHECK.due("play(2)", x.play(2), true);
        CHECK.due("turn", x.turn(), 1);
        CHECK.due("truth", x.truth(), 1);
        CHECK.due("no move for all", x.move(), -1);
        CHECK.due("two moves alone", x.play(2), false);
        CHECK.due("wins(2)", x.wins(2), -1);
        CHECK.due("play(1)", x.play(1), true);
        CHECK.due("d must be 0", x.move(), 0);
        CHECK.due("d alone", x.moves(), 1);
        CHECK.due("play(1)", x.play(1), true);
        CHECK.due("truth when all were played", x.truth(), 0);
        CHECK.due("turn when all were played", x.turn(), -1);
        CHECK.due("move when all were played", x.move(), -1);
        CHECK.due("moves when all were played", x.moves(), -1);
        CHECK.due("wins when all were played", x.wins(0), -1);
        CHECK.due("play when all were played", x.play(0), false);
        CHECK.due("models when all were played", x.models(), 0);
        CHECK.due("a", x.look(60), 1);
        CHECK.due("b", x.look(61), 0);
        CHECK.due("c", x.look(62), 1);
        CHECK.due("d", x.look(63), 1);
        CHECK.due("undo", x.undo(), 1);
        CHECK.due("turn", x.turn(), 0);
        CHECK.due("play(0)", x.play(0), true);
        CHECK.due("truth", x.truth(), 1);
        CHECK.due("models", x.models(), 1);
        CHECK.due("undo", x.undo(), 0);
        CHECK.due("undo", x.undo(), 1);
        CHECK.due("undo", x.undo(), 2);
        CHECK.due("undo", x.undo(), -1);
        CHECK.due("turn", x.turn(), 0);
        CHECK.due("moves", x.moves(), 2);
        CHECK.due("play(0)", x.play(0), true);
        CHECK.due("a is 0", x.truth(), 0);
        CHECK.due("all has two", x.moves(), 2);
    }

    private static void fixedNames() {
        ChoiceGame x = Check.of("some a;all b;some c:(a=b)&c|a&c&!b&0");
        CHECK.due("truth", x.truth(), 0);
        CHECK.due("b fixed to 0", x.fixed(1, 0), 1);
        CHECK.due("b fixed to 1", x.fixed(1, 1), 1);
        CHECK.due("a fixed", x.fixed(0, 1), 0);
        CHECK.due("c fixed", x.fixed(2, 0), 0);
        for (int wrong : WRONG) {
            CHECK.due("fixed(" + wrong + ", 0)", x.fixed(wrong, 0), -1);
            CHECK.due("fixed(0, " + wrong + ")", x.fixed(0, wrong), -1);
        }
        CHECK.due("fixed(3, 0)", x.fixed(3, 0), -1);
        CHECK.due("fixed(0, 2)", x.fixed(0, 2), -1);
        CHECK.due("the game is as it was", x.truth(), 0);
        // Known ahead: some, who chooses first, sees what all's name will be.
        ChoiceGame y = Check.of("some a;all b c:(a=b)&(c|!c)");
        CHECK.due("of a block of two one", y.fixed(1, 1), 1);
        CHECK.due("the other", y.fixed(2, 1), 0);
    }

    private static void fixedPlayedNames() {
        ChoiceGame x = Check.of("some a b;all c:a&!b&(c|!c)");
        x.play(3);
        CHECK.due("truth", x.truth(), 0);
        CHECK.due("b played 1, fixed to 0", x.fixed(1, 0), 1);
        CHECK.due("b fixed to 1", x.fixed(1, 1), 0);
        CHECK.due("a fixed to 0", x.fixed(0, 0), 0);
        CHECK.due("a fixed to 1", x.fixed(0, 1), 0);
        CHECK.due("b is 1 as before", x.look(61), 1);
        CHECK.due("truth as before", x.truth(), 0);
        x.undo();
        x.play(2);
        CHECK.due("a played 1, fixed to 0", x.fixed(0, 0), 0);
        CHECK.due("a fixed to 1", x.fixed(0, 1), 1);
        CHECK.due("c is not played", x.fixed(2, 0), 1);
        x.play(0);
        CHECK.due("all were played, b fixed to 1", x.fixed(1, 1), 0);
    }

    private static void turnedBlocks() {
        ChoiceGame x = Check.of("some a;all b;some c:(a=b)&c");
        CHECK.due("a is all's", x.turned(0), 0);
        CHECK.due("b is some's", x.turned(1), 1);
        CHECK.due("c is all's", x.turned(2), 0);
        CHECK.due("turned(3)", x.turned(3), -1);
        for (int wrong : WRONG) {
            CHECK.due("turned(" + wrong + ")", x.turned(wrong), -1);
        }
        x.play(1);
        CHECK.due("a was played", x.turned(0), -1);
        CHECK.due("b is some's, still", x.turned(1), 1);
        CHECK.due("the game is as it was", x.turn(), 1);
        CHECK.due("and who wins, too", x.truth(), 0);
        x.play(1);
        x.play(1);
        CHECK.due("all were played", x.turned(2), -1);
        CHECK.due("a whole block of two", Check.of("some a b:a&b").turned(0), 0);
        CHECK.due("a whole block of two, all's", Check.of("all a b:a&b").turned(0), 1);
    }

    private static void models() {
        ChoiceGame x = Check.of("some a b;all c:a|b&c");
        CHECK.due("models", x.models(), 5);
        x.play(1);
        CHECK.due("a 0, b 1", x.models(), 1);
        x.undo();
        x.play(2);
        CHECK.due("a 1, b 0", x.models(), 2);
        x.play(0);
        CHECK.due("all were played", x.models(), 1);
        CHECK.due("names that the formula lacks", Check.of("all a b;some c:1").models(), 8);
        CHECK.due("none", Check.of("all a b;some c:0").models(), 0);
        CHECK.due("six names", Check.of("some a b c d e f:1").models(), 64);
        CHECK.due("seven names", Check.of("some a b c d e f g:a|g").models(), 96);
    }

    private static void tenNames() {
        ChoiceGame x = Check.of("some a b c d e f g h i j:a&b&!c&d&e&f&g&h&!i&j");
        int one = 0b1101111101;
        CHECK.due("the one move", x.move(), one);
        CHECK.due("one of them", x.moves(), 1);
        CHECK.due("one model", x.models(), 1);
        CHECK.due("wins", x.wins(one), 1);
        CHECK.due("wins not", x.wins(one - 1), 0);
        CHECK.due("wins(1023)", x.wins(1023), 0);
        CHECK.due("wins(1024)", x.wins(1024), -1);
        CHECK.due("c fixed", x.fixed(2, 1), 0);
        CHECK.due("i fixed", x.fixed(8, 0), 1);
        CHECK.due("play", x.play(one), true);
        CHECK.due("truth", x.truth(), 1);
        CHECK.due("undo", x.undo(), one);
        ChoiceGame y = Check.of("all a b;some c d e;all f;some g h;all i;some j:(a=c)&(b=d)&(f=g)&(i=j)&(e|h)");
        CHECK.due("six blocks", y.look(1), 6);
        CHECK.due("some follows", y.truth(), 1);
        CHECK.due("1024 ways", y.models(), 48);
        y.play(3);
        CHECK.due("a, b as they were", y.moves(), 2);
        CHECK.due("the least", y.move(), 6);
        CHECK.due("some's block is all's", y.turned(1), 0);
        CHECK.due("all's block is some's", y.turned(2), 1);
    }
}
