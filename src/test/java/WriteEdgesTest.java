/** Promises 15 to 17, sentence by sentence: write, octet, look. */
public final class WriteEdgesTest {
    private static final Check CHECK = new Check();
    private static final String OPERATORS = "=>|^&";
    private static final String NAMES = "some a b c d e9:";

    public static void main(String[] args) {
        asFewAsCanBeLeft();
        asFewAsCanBeRight();
        asFewAsCanBeBehindNot();
        moreThanOnePair();
        withoutBlanks();
        notAhead();
        howManyBytes();
        theLongest();
        readAsTheSame();
        theFormulaAlone();
        octets();
        octetNone();
        octetOfTheLatest();
        lookCounts();
        lookAtBlocks();
        lookAtNames();
        lookAtTheirBlocks();
        lookAtValues();
        lookNone();
        CHECK.end();
    }

    private static void written(String formula, String want) {
        CHECK.due("write of " + formula, Check.written(Check.of(NAMES + formula)), want);
    }

    private static void asFewAsCanBeLeft() {
        CHECK.sentence("Promise 15: with as few ( ) as can be (on the left)");
        for (int outer = 0; outer < 5; outer++) {
            for (int inner = 0; inner < 5; inner++) {
                char out = OPERATORS.charAt(outer);
                String part = "a" + OPERATORS.charAt(inner) + "b";
                boolean needed = inner < outer || inner == outer && out == '>';
                written("(" + part + ")" + out + "c", needed ? "(" + part + ")" + out + "c" : part + out + "c");
            }
        }
    }

    private static void asFewAsCanBeRight() {
        CHECK.sentence("Promise 15: with as few ( ) as can be (on the right)");
        for (int outer = 0; outer < 5; outer++) {
            for (int inner = 0; inner < 5; inner++) {
                char out = OPERATORS.charAt(outer);
                String part = "b" + OPERATORS.charAt(inner) + "c";
                boolean needed = inner < outer || inner == outer && out != '>';
                written("a" + out + "(" + part + ")", needed ? "a" + out + "(" + part + ")" : "a" + out + part);
            }
        }
    }

    private static void asFewAsCanBeBehindNot() {
        CHECK.sentence("Promise 15: with as few ( ) as can be (behind !)");
        for (int i = 0; i < 5; i++) {
            char sign = OPERATORS.charAt(i);
            written("!(a" + sign + "b)", "!(a" + sign + "b)");
            written("(!a)" + sign + "(!b)", "!a" + sign + "!b");
            written("!(!(a" + sign + "b))", "!!(a" + sign + "b)");
            written("(!(a" + sign + "b))" + sign + "c", "!(a" + sign + "b)" + sign + "c");
        }
        // The ( must stand ahead of the !, which is the first of what is put together.
        written("(!a|b)&c", "(!a|b)&c");
        written("a&(!b|!c)", "a&(!b|!c)");
        written("((!(!a))^(b))&c", "(!!a^b)&c");
        written("(!(a|b)|c)&d", "(!(a|b)|c)&d");
        written("!(!a|b)", "!(!a|b)");
        written("!(a)", "!a");
        written("!(0)", "!0");
        written("!((1))", "!1");
        written("!(!a)", "!!a");
        written("(!(!(!(e9))))", "!!!e9");
    }

    private static void moreThanOnePair() {
        CHECK.sentence("Promise 15: with as few ( ) as can be (more than one pair)");
        written("(a)", "a");
        written("((((a))))", "a");
        written("((a&b))", "a&b");
        written("((a|b))&c", "(a|b)&c");
        written("(((a|b)))&((c))", "(a|b)&c");
        written("((a|b)&c)", "(a|b)&c");
        written("((a|b)&c)^d", "(a|b)&c^d");
        written("(((a=b)|c)&d)", "((a=b)|c)&d");
        written("a&((b|c)&d)", "a&((b|c)&d)");
        written("((a>b)>c)>d", "((a>b)>c)>d");
        written("a>(b>(c>d))", "a>b>c>d");
        written("((a&b)&c)&d", "a&b&c&d");
        written("a=(b=(c=d))", "a=(b=(c=d))");
        String open = Check.times("(", 20);
        String close = Check.times(")", 20);
        written(open + "a" + close, "a");
        written(open + "a|b" + close + "&c", "(a|b)&c");
        String needed = Check.times("a^(", 20) + "b^c" + close;
        written(needed, needed);
        written(Check.times("a>(", 20) + "b>c" + close, Check.times("a>", 20) + "b>c");
    }

    private static void withoutBlanks() {
        CHECK.sentence("Promise 15: without blanks");
        written(" \n! \n( a\n|  b ) \n= e9 \n", "!(a|b)=e9");
        written("a", "a");
    }

    private static void notAhead() {
        CHECK.sentence("Promise 15: ! ahead of what it turns");
        written("!a", "!a");
        written("a&!b", "a&!b");
        written("!!a", "!!a");
        written("!0=!1", "!0=!1");
        written("!(a)&b", "!a&b");
        written("!(a&b)", "!(a&b)");
    }

    private static void howManyBytes() {
        CHECK.sentence("Promise 15: how many bytes");
        CHECK.due("0", Check.of(NAMES + "0").write(), 1);
        CHECK.due("a", Check.of(NAMES + "a").write(), 1);
        CHECK.due("e9", Check.of(NAMES + "e9").write(), 2);
        CHECK.due("( ( e9 ) )", Check.of(NAMES + "( ( e9 ) )").write(), 2);
        CHECK.due("!(a|e9)&1", Check.of(NAMES + "!(a|e9)&1").write(), 9);
        CHECK.due("a new object's", new ChoiceGame().write(), 1);
    }

    private static void theLongest() {
        CHECK.sentence("Promise 15: how many bytes, of the most tokens");
        // 160 tokens: three of the block and its :, then 79 names of two bytes with 78 signs between.
        String longest = "e9" + Check.times("=e9", 78);
        ChoiceGame x = Check.of("all e9:" + longest);
        CHECK.due("write", x.write(), 236);
        CHECK.due("octet(234)", x.octet(234), 'e');
        CHECK.due("octet(235)", x.octet(235), '9');
        CHECK.due("octet(236)", x.octet(236), -1);
        CHECK.due("all of it", Check.written(x), longest);
        String constants = "1" + Check.times(">0", 79);
        CHECK.due("a : and 159 tokens", Check.written(Check.of(":" + constants)), constants);
    }

    private static void readAsTheSame() {
        CHECK.sentence("Promise 15: It is read as the same");
        String[] formulas = {"(a>b)>c>d", "a=(b=c)", "a|(b|c)^d", "!(a&!b)|c", "((a=b)>c|d)&e9", "a^(b^c)^d", "(a|b)&(c|d)&(a|d)"};
        for (String formula : formulas) {
            ChoiceGame x = Check.of(NAMES + formula);
            String once = Check.written(x);
            ChoiceGame y = Check.of(NAMES + once);
            CHECK.due(formula + " written, read, written", Check.written(y), once);
            for (int m = 0; m < 32; m++) {
                CHECK.due(formula + " by move " + m, y.wins(m), x.wins(m));
            }
        }
    }

    private static void theFormulaAlone() {
        CHECK.sentence("Promise 15: The FORMULA is written");
        ChoiceGame x = Check.of("some a;all b:a&b|1");
        x.play(1);
        x.play(0);
        CHECK.due("names that were played are names", Check.written(x), "a&b|1");
        CHECK.due("the play is as it was", x.look(2), 2);
        Check.read(x, "some c:c&");
        CHECK.due("the former game's behind a fault", Check.written(x), "a&b|1");
        Check.read(x, "some c:c");
        CHECK.due("the new game's", Check.written(x), "c");
    }

    private static void octets() {
        CHECK.sentence("Promise 16: Byte i of what was written");
        String want = "!(a|b)^c&d=e9>0";
        ChoiceGame x = Check.of(NAMES + want);
        CHECK.due("write", x.write(), want.length());
        for (int i = 0; i < want.length(); i++) {
            CHECK.due("octet(" + i + ")", x.octet(i), want.charAt(i));
        }
        CHECK.due("octet(0) again", x.octet(0), '!');
    }

    private static void octetNone() {
        CHECK.sentence("Promise 16: NONE if there is none");
        ChoiceGame x = Check.of(NAMES + "a&b");
        CHECK.due("octet(0) ahead of write", x.octet(0), -1);
        x.write();
        CHECK.due("octet(-1)", x.octet(-1), -1);
        CHECK.due("octet(0)", x.octet(0), 'a');
        CHECK.due("octet(2)", x.octet(2), 'b');
        CHECK.due("octet(3)", x.octet(3), -1);
        for (int i : new int[] {4, 319, 320, 321, 600, Integer.MIN_VALUE, Integer.MAX_VALUE}) {
            CHECK.due("octet(" + i + ")", x.octet(i), -1);
        }
        CHECK.due("a new object's octet(0)", new ChoiceGame().octet(0), -1);
    }

    private static void octetOfTheLatest() {
        CHECK.sentence("Promise 16: .. of what was written (by the latest write)");
        ChoiceGame x = Check.of(NAMES + "a&b");
        x.write();
        Check.read(x, ":0");
        CHECK.due("a new game is not written by being read", x.octet(2), 'b');
        Check.read(x, ":");
        CHECK.due("a faulty text leaves it, too", x.octet(2), 'b');
        CHECK.due("and its end", x.octet(3), -1);
        CHECK.due("write", x.write(), 1);
        CHECK.due("octet(0)", x.octet(0), '0');
        CHECK.due("a longer one is gone", x.octet(1), -1);
    }

    private static void lookCounts() {
        CHECK.sentence("Promise 17: 0 NAMES, 1 BLOCKS, 2 BLOCKS that were played, 3 bytes of the tape");
        ChoiceGame x = Check.of("some a b;all c;some d e f:1");
        int[] due = {6, 3, 0, 0};
        for (int what = 0; what < 4; what++) {
            CHECK.due("look(" + what + ")", x.look(what), due[what]);
        }
        for (int played = 1; played <= 3; played++) {
            x.play(0);
            CHECK.due("played", x.look(2), played);
        }
        x.undo();
        CHECK.due("one was taken back", x.look(2), 2);
        CHECK.due("names and blocks are of all", x.look(0) * 10 + x.look(1), 63);
        for (int bytes = 20; bytes <= 600; bytes += 20) {
            x.feed(0, 0, 0, 0, 0);
            CHECK.due("bytes", x.look(3), bytes);
        }
        x.read(0);
        CHECK.due("bytes behind a read", x.look(3), 0);
        CHECK.due("ten names", Check.of("some a b c d e f g h i j:1").look(0), 10);
        CHECK.due("six blocks", Check.of("some a;all b;some c;all d;some e;all f:1").look(1), 6);
    }

    private static void lookAtBlocks() {
        CHECK.sentence("Promise 17: of BLOCK b (10 + b) how many NAMES");
        ChoiceGame x = Check.of("some a;all b c;some d e f;all g;some h;all i j:1");
        int[] sizes = {1, 2, 3, 1, 1, 2};
        CHECK.due("look(9)", x.look(9), -1);
        for (int b = 0; b < 6; b++) {
            CHECK.due("block " + b, x.look(10 + b), sizes[b]);
        }
        CHECK.due("look(16)", x.look(16), -1);
        x.play(1);
        CHECK.due("a block that was played", x.look(10), 1);
        ChoiceGame one = Check.of("all a b c d e f g h i j:1");
        CHECK.due("ten in one", one.look(10), 10);
        CHECK.due("no second", one.look(11), -1);
        CHECK.due("no block", Check.of(":1").look(10), -1);
    }

    private static void lookAtNames() {
        CHECK.sentence("Promise 17: of NAME k (20 + k) its letter, and 256 times its digit and 1 (0 without one)");
        for (char letter : new char[] {'a', 'm', 'z'}) {
            CHECK.due("" + letter, Check.of("some " + letter + ":1").look(20), letter);
            for (int digit = 0; digit <= 9; digit++) {
                CHECK.due("" + letter + digit, Check.of("some " + letter + digit + ":1").look(20), letter + 256 * (digit + 1));
            }
        }
        ChoiceGame ten = Check.of("some a b;all c d;some e f;all g h;some i j9:1");
        CHECK.due("look(19)", ten.look(19), -1);
        for (int k = 0; k < 9; k++) {
            CHECK.due("name " + k, ten.look(20 + k), 'a' + k);
        }
        CHECK.due("name 9", ten.look(29), 'j' + 2560);
        CHECK.due("look(30)", ten.look(30), -1);
        CHECK.due("one name of one", Check.of("some a:1").look(21), -1);
        CHECK.due("no name", Check.of(":1").look(20), -1);
    }

    private static void lookAtTheirBlocks() {
        CHECK.sentence("Promise 17: (40 + k) its BLOCK");
        ChoiceGame x = Check.of("some a;all b c;some d e f;all g;some h;all i j:1");
        int[] blocks = {0, 1, 1, 2, 2, 2, 3, 4, 5, 5};
        CHECK.due("look(39)", x.look(39), -1);
        for (int k = 0; k < 10; k++) {
            CHECK.due("name " + k, x.look(40 + k), blocks[k]);
        }
        CHECK.due("look(50)", x.look(50), -1);
        x.play(0);
        CHECK.due("a name that was played", x.look(40), 0);
        CHECK.due("one name of one", Check.of("some a:1").look(41), -1);
        CHECK.due("no name", Check.of(":1").look(40), -1);
    }

    private static void lookAtValues() {
        CHECK.sentence("Promise 17: (60 + k) its value where it was played, else NONE");
        ChoiceGame x = Check.of("some a;all b c;some d e f;all g;some h;all i j:1");
        int[] moves = {1, 2, 5, 0, 1, 1};
        int[] sizes = {1, 2, 3, 1, 1, 2};
        int[] values = {1, 1, 0, 1, 0, 1, 0, 1, 0, 1};
        int names = 0;
        for (int b = 0; b <= 6; b++) {
            for (int k = 0; k < 10; k++) {
                CHECK.due("name " + k + " behind " + b, x.look(60 + k), k < names ? values[k] : -1);
            }
            if (b < 6) {
                x.play(moves[b]);
                names += sizes[b];
            }
        }
        CHECK.due("look(59)", x.look(59), -1);
        CHECK.due("look(70)", x.look(70), -1);
        x.undo();
        CHECK.due("its move was taken back", x.look(69), -1);
        CHECK.due("the one ahead of it", x.look(67), 1);
    }

    private static void lookNone() {
        CHECK.sentence("Promise 17: NONE for others");
        ChoiceGame x = Check.of("some a b c d e;all f;some g;all h;some i;all j:1");
        x.play(31);
        for (int what = -100; what < 200; what++) {
            boolean one = what >= 0 && what <= 3 || what >= 10 && what <= 15 || what >= 20 && what <= 29
                || what >= 40 && what <= 49 || what >= 60 && what <= 64;
            int seen = x.look(what);
            CHECK.due("look(" + what + ") is one", seen >= 0, one);
            CHECK.due("look(" + what + ") is NONE", seen == -1, !one);
        }
        ChoiceGame y = Check.of("some a b c d e;all f;some g;all h;some i;all j:1");
        for (int shift = 8; shift < 32; shift++) {
            CHECK.due("look(1 << " + shift + ")", y.look(1 << shift), -1);
            CHECK.due("look((1 << " + shift + ") + 20)", y.look((1 << shift) + 20), -1);
            CHECK.due("look(-1 << " + shift + ")", y.look(-1 << shift), -1);
        }
        CHECK.due("look(most)", y.look(Integer.MAX_VALUE), -1);
    }
}
