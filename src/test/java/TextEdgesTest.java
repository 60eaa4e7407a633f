/** "Terms", PART 1, sentence by sentence: what is a TOKEN, a TEXT, a BLOCK, a FORMULA, and what is none. */
public final class TextEdgesTest {
    private static final Check CHECK = new Check();
    private static final String OPERATORS = "=>|^&";

    public static void main(String[] args) {
        atMost600Bytes();
        blanks();
        everyByteBehindAnOperand();
        everyByteAheadOfAnOperand();
        everyByteBehindAName();
        everyByteBehindAWord();
        names();
        words();
        standTogether();
        zeroAndOneAlone();
        theText();
        oneOrMoreNames();
        sameWordTwice();
        levelsOfTwo();
        levelSix();
        values();
        fromTheLeft();
        CHECK.end();
    }

    private static boolean isDigit(int c) {
        return c >= '0' && c <= '9';
    }

    private static boolean isLetterOrDigit(int c) {
        return c >= 'a' && c <= 'z' || c >= 'A' && c <= 'Z' || isDigit(c);
    }

    private static boolean isBlank(int c) {
        return c == 32 || c == 10;
    }

    private static boolean isOperator(int c) {
        return OPERATORS.indexOf(c) >= 0;
    }

    private static void atMost600Bytes() {
        CHECK.sentence("THE TEXT, at most 600 bytes");
        String blanks = Check.times(" ", 597);
        CHECK.fine(":" + blanks + " 1", 0);
        CHECK.fine(":" + blanks + "!1", 0);
        CHECK.faulty(":1&" + blanks, 1, 600);
        CHECK.faulty(":1" + blanks + ")", 1, 599);
        ChoiceGame x = new ChoiceGame();
        CHECK.due("600 bytes are fed", Check.feed(x, ":1 " + blanks), 600);
        CHECK.due("20 more", x.feed(0, 0, 0, 0, 0), -1);
        CHECK.due("read(601)", x.read(601), -1);
        CHECK.due("read(600)", x.read(600), 0);
    }

    private static void blanks() {
        CHECK.sentence("blanks (32, 10) between TOKENS");
        CHECK.fine(" \n \nsome\n\na \nb\n;  all c\n:\n!\n a & ( b\n)\n\n", 2);
        CHECK.fine("some a;all b:a&b", 2);
        CHECK.faulty("so me a:1", 1, 0);
        CHECK.faulty("al\nl a:1", 1, 0);
        CHECK.faulty("some a 1:1", 1, 7);
        CHECK.faulty(" ", 1, 1);
        CHECK.faulty("\n", 1, 1);
    }

    private static void everyByteBehindAnOperand() {
        CHECK.sentence("TOKENS: .. signs ( ) ! & | ^ > = ; : 0 1 (behind :1)");
        for (int c = 0; c < 256; c++) {
            String text = ":1" + (char) c;
            if (isBlank(c)) {
                CHECK.fine(text, 0);
            } else if (isLetterOrDigit(c)) {
                CHECK.faulty(text, 1, 1);
            } else {
                CHECK.faulty(text, 1, isOperator(c) ? 3 : 2);
            }
        }
    }

    private static void everyByteAheadOfAnOperand() {
        CHECK.sentence("TOKENS: .. signs ( ) ! & | ^ > = ; : 0 1 (ahead of 1)");
        for (int c = 0; c < 256; c++) {
            String text = ":" + (char) c + "1";
            if (isBlank(c) || c == '!') {
                CHECK.fine(text, 0);
            } else if (c >= 'a' && c <= 'z') {
                CHECK.faulty(text, 2, 1);
            } else {
                CHECK.faulty(text, 1, c == '(' ? 3 : 1);
            }
        }
    }

    private static void everyByteBehindAName() {
        CHECK.sentence("NAMES: a letter a .. z, perhaps a digit behind it (every byte behind a)");
        for (int c = 0; c < 256; c++) {
            String text = "some a" + (char) c + ":1";
            if (isBlank(c) || isDigit(c)) {
                CHECK.fine(text, 1);
            } else if (isLetterOrDigit(c)) {
                CHECK.faulty(text, 1, 5);
            } else {
                CHECK.faulty(text, 1, c == ';' || c == ':' ? 7 : 6);
            }
        }
    }

    private static void everyByteBehindAWord() {
        CHECK.sentence("Letters, of both cases, and digits that stand together are one TOKEN (every byte behind some)");
        for (int c = 0; c < 256; c++) {
            String text = "some" + (char) c + "a:1";
            if (isBlank(c)) {
                CHECK.fine(text, 1);
            } else {
                CHECK.faulty(text, 1, isLetterOrDigit(c) ? 0 : 4);
            }
        }
    }

    private static void names() {
        CHECK.sentence("NAMES: a letter a .. z, perhaps a digit behind it");
        for (char letter = 'a'; letter <= 'z'; letter++) {
            CHECK.fine("all " + letter + ":" + letter, 1);
            for (int digit = 0; digit <= 9; digit++) {
                CHECK.fine("all " + letter + digit + ":" + letter + digit, 1);
            }
        }
        for (char letter = 'A'; letter <= 'Z'; letter++) {
            CHECK.faulty("all " + letter + ":1", 1, 4);
            CHECK.faulty("all " + letter + "0:1", 1, 4);
        }
        CHECK.faulty("all a00:1", 1, 4);
        CHECK.faulty("all a0b:1", 1, 4);
        CHECK.faulty("all 0a:1", 1, 4);
        CHECK.faulty("all aa:1", 1, 4);
    }

    private static void words() {
        CHECK.sentence("WORDS: some all");
        CHECK.fine("some a:1", 1);
        CHECK.fine("all a:1", 1);
        String[] none = {"som", "ome", "somes", "ssome", "sume", "somf", "Some", "somE", "SOME", "some1",
            "al", "ll", "alll", "aall", "ali", "bll", "All", "alL", "ALL", "all0", "0all", "any", "allsome"};
        for (String word : none) {
            CHECK.faulty(word + " a:1", 1, 0);
        }
        CHECK.faulty("some some:1", 1, 5);
        CHECK.faulty("some a:some", 1, 7);
        CHECK.faulty("some a:all", 1, 7);
    }

    private static void standTogether() {
        CHECK.sentence("Letters, of both cases, and digits that stand together are one TOKEN: a WORD, a NAME, or none");
        CHECK.fine("some a b:a&b", 1);
        CHECK.faulty("some ab:1", 1, 5);
        CHECK.fine("some a1 b:a1", 1);
        CHECK.faulty("some a1b:1", 1, 5);
        CHECK.faulty("some aB:1", 1, 5);
        CHECK.faulty("some Ab:1", 1, 5);
        CHECK.faulty("some1 a:1", 1, 0);
        CHECK.faulty("some a:a1", 2, 7);
        CHECK.faulty("some a:a 1", 1, 9);
        CHECK.faulty("some a:1a", 1, 7);
        CHECK.fine("some a:1&a", 1);
        // What stands behind the n bytes is none of the text, though it stands together with it.
        ChoiceGame cut = new ChoiceGame();
        Check.feed(cut, "some a:a1");
        CHECK.due("read(8) of some a:a1", cut.read(8), 1);
        Check.feed(cut, "all a1:a1x");
        CHECK.due("read(9) of all a1:a1x", cut.read(9), 1);
        Check.feed(cut, "all a1:a1x");
        CHECK.due("read(10) of all a1:a1x", cut.read(10), -2);
        CHECK.due("its place", cut.fault(1), 7);
    }

    private static void zeroAndOneAlone() {
        CHECK.sentence("0 and 1 alone are signs");
        CHECK.fine(":0", 0);
        CHECK.fine(":1", 0);
        for (int digit = 2; digit <= 9; digit++) {
            CHECK.faulty(":" + digit, 1, 1);
        }
        for (String none : new String[] {"00", "01", "10", "11", "001"}) {
            CHECK.faulty(":" + none, 1, 1);
        }
        CHECK.faulty(":0 1", 1, 3);
        CHECK.faulty("some 0:1", 1, 5);
        CHECK.faulty("some a 1:1", 1, 7);
    }

    private static void theText() {
        CHECK.sentence("TEXT: [ BLOCK { ; BLOCK } ] : FORMULA");
        CHECK.fine(":1", 0);
        CHECK.fine("some a:1", 1);
        CHECK.fine("some a;all b:1", 2);
        CHECK.fine("some a;all b;some c:1", 3);
        CHECK.faulty(";:1", 1, 0);
        CHECK.faulty(";some a:1", 1, 0);
        CHECK.faulty("some a;:1", 1, 7);
        CHECK.faulty("some a;;all b:1", 1, 7);
        CHECK.faulty("some a all b:1", 1, 7);
        CHECK.faulty("1", 1, 0);
        CHECK.faulty("some a 1", 1, 7);
        CHECK.faulty("::1", 1, 1);
        CHECK.faulty(":1:1", 1, 2);
        CHECK.faulty(":", 1, 1);
        CHECK.faulty("some a:", 1, 7);
    }

    private static void oneOrMoreNames() {
        CHECK.sentence("BLOCK: some or all, then one or more NAMES");
        for (String word : new String[] {"some", "all"}) {
            CHECK.faulty(word + ":1", 1, word.length());
            CHECK.faulty(word + ";all a:1", 1, word.length());
            CHECK.faulty("some z;" + word + ":1", 1, 7 + word.length());
            CHECK.faulty(word, 1, word.length());
            StringBuilder names = new StringBuilder();
            for (int n = 1; n <= 10; n++) {
                names.append(' ').append((char) ('a' + n));
                ChoiceGame x = Check.of(word + names + ":1");
                CHECK.due(word + names + ": names", x.look(10), n);
                CHECK.due(word + names + ": blocks", x.look(1), 1);
            }
        }
        CHECK.faulty("a:1", 1, 0);
    }

    private static void sameWordTwice() {
        CHECK.sentence("two one behind the other of the same word are one BLOCK");
        CHECK.fine("some a;some b:1", 1);
        CHECK.fine("all a;all b:1", 1);
        CHECK.fine("some a;all b:1", 2);
        CHECK.fine("all a;some b:1", 2);
        CHECK.fine("some a;all b;some c:1", 3);
        CHECK.fine("some a;some b;some c:1", 1);
        CHECK.fine("all a;some b;some c;all d:1", 3);
        ChoiceGame x = Check.of("all a;some b c;some d;all e;all f:1");
        int[] sizes = {1, 3, 2};
        int[] blocks = {0, 1, 1, 1, 2, 2};
        for (int b = 0; b < 4; b++) {
            CHECK.due("names of block " + b, x.look(10 + b), b < 3 ? sizes[b] : -1);
        }
        for (int k = 0; k < 7; k++) {
            CHECK.due("block of name " + k, x.look(40 + k), k < 6 ? blocks[k] : -1);
        }
        // One block is one move: both names are chosen at once.
        ChoiceGame y = Check.of("some a;some b;all c:a&!b");
        CHECK.due("the move of both", y.move(), 2);
        CHECK.due("play(3)", y.play(3), true);
        CHECK.due("then it is all's turn", y.turn(), 1);
    }

    private static int value(char sign, int left, int right) {
        switch (sign) {
            case '&':
                return left * right;
            case '|':
                return left + right > 0 ? 1 : 0;
            case '^':
                return left == right ? 0 : 1;
            case '=':
                return left == right ? 1 : 0;
            default:
                return left == 1 && right == 0 ? 0 : 1;
        }
    }

    private static void levelsOfTwo() {
        CHECK.sentence("LEVEL 1: LEVEL 2 { = LEVEL 2 }, LEVEL 2: LEVEL 3 [ > LEVEL 2 ], LEVEL 3: LEVEL 4 { | LEVEL 4 }, ..");
        for (int first = 0; first < 5; first++) {
            for (int second = 0; second < 5; second++) {
                char x = OPERATORS.charAt(first);
                char y = OPERATORS.charAt(second);
                boolean left = first > second || first == second && x != '>';
                for (int bits = 0; bits < 8; bits++) {
                    int a = bits >> 2;
                    int b = bits >> 1 & 1;
                    int c = bits & 1;
                    int due = left ? value(y, value(x, a, b), c) : value(x, a, value(y, b, c));
                    String text = ":" + a + x + b + y + c;
                    CHECK.due(text, Check.of(text).truth(), due);
                    CHECK.due(text + ", written", Check.written(Check.of(text)), text.substring(1));
                }
            }
        }
    }

    private static void levelSix() {
        CHECK.sentence("LEVEL 6: ! LEVEL 6, ( FORMULA ), NAME, 0, 1");
        for (int i = 0; i < 5; i++) {
            char sign = OPERATORS.charAt(i);
            for (int bits = 0; bits < 4; bits++) {
                int a = bits >> 1;
                int b = bits & 1;
                String both = "" + a + sign + b;
                CHECK.due("!" + both, Check.of(":!" + both).truth(), value(sign, 1 - a, b));
                CHECK.due("!(" + both + ")", Check.of(":!(" + both + ")").truth(), 1 - value(sign, a, b));
                CHECK.due("!!" + both, Check.of(":!!" + both).truth(), value(sign, a, b));
                CHECK.due(a + "" + sign + "!" + b, Check.of(":" + a + sign + "!" + b).truth(), value(sign, a, 1 - b));
            }
            CHECK.faulty(":(" + sign + "1)", 1, 2);
            CHECK.faulty(":(1" + sign + ")", 1, 4);
            CHECK.faulty(":!" + sign + "1", 1, 2);
        }
        CHECK.fine(":(1)", 0);
        CHECK.fine(":((1))", 0);
        CHECK.faulty(":()", 1, 2);
        CHECK.faulty(":(1", 1, 3);
        CHECK.faulty(":1)", 1, 2);
        CHECK.faulty(":((1)", 1, 5);
        CHECK.faulty(":(1))", 1, 4);
        CHECK.faulty(":!", 1, 2);
        CHECK.faulty(":1!", 1, 2);
        CHECK.faulty(":(1)(1)", 1, 4);
    }

    private static void values() {
        CHECK.sentence("VALUES: 0 and 1 as they are; ! the other one; & | as usual; ^ and = whether two are unlike, alike; > is 0 only for 1 > 0");
        CHECK.due("0", Check.of(":0").truth(), 0);
        CHECK.due("1", Check.of(":1").truth(), 1);
        CHECK.due("!0", Check.of(":!0").truth(), 1);
        CHECK.due("!1", Check.of(":!1").truth(), 0);
        // Each sign with its values for 0 0, 0 1, 1 0 and 1 1, of constants and of names.
        String[] tables = {"&0001", "|0111", "^0110", "=1001", ">1101"};
        for (String table : tables) {
            char sign = table.charAt(0);
            ChoiceGame named = Check.of("some a b:a" + sign + "b");
            for (int m = 0; m < 4; m++) {
                int due = table.charAt(m + 1) - '0';
                String text = ":" + (m >> 1) + sign + (m & 1);
                CHECK.due(text, Check.of(text).truth(), due);
                CHECK.due("a" + sign + "b by move " + m, named.wins(m), due);
            }
        }
    }

    private static void fromTheLeft() {
        CHECK.sentence("^ and = .. (from the left)");
        CHECK.due("0=0=0", Check.of(":0=0=0").truth(), 0);
        CHECK.due("0=0=1", Check.of(":0=0=1").truth(), 1);
        CHECK.due("0=0=0=0", Check.of(":0=0=0=0").truth(), 1);
        CHECK.due("1^1^1", Check.of(":1^1^1").truth(), 1);
        CHECK.due("1^1^1^1", Check.of(":1^1^1^1").truth(), 0);
        CHECK.due("1^0^0", Check.of(":1^0^0").truth(), 1);
        CHECK.due("> from the right: 0>0>0", Check.of(":0>0>0").truth(), 1);
        CHECK.due("(0>0)>0", Check.of(":(0>0)>0").truth(), 0);
        CHECK.due("1>0>0", Check.of(":1>0>0").truth(), 1);
        CHECK.due("1>1>0", Check.of(":1>1>0").truth(), 0);
    }
}
