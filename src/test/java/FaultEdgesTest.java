/** "Terms", PART 1, FAULTS: each fault, each number, and which one is told if there are several. */
public final class FaultEdgesTest {
    private static final Check CHECK = new Check();
    private static final String TEN_NAMES = "some a b c d e f g h i j";
    private static final String SIX_WORDS = "some a;all b;some c;all d;some e;all f";
    // 160 tokens each, behind which an operand, an operator, or a ) may stand.
    private static final String THEN_OPERAND = ":!" + Check.times("1&", 79);
    private static final String THEN_OPERATOR = ":" + Check.times("1&", 79) + "1";
    private static final String THEN_CLOSE = ":(" + Check.times("1&", 78) + "!1";

    public static void main(String[] args) {
        cannotStandThere();
        theEndToo();
        orIsNone();
        the21stOpen();
        openTillLevelSixEnds();
        unknown();
        twice();
        the11thName();
        the7thWord();
        the161stToken();
        every161stToken();
        theFirstToken();
        ofOneTheLeast();
        CHECK.end();
    }

    private static String open(int n) {
        return Check.times("(", n);
    }

    private static String close(int n) {
        return Check.times(")", n);
    }

    private static void cannotStandThere() {
        CHECK.sentence("1 FORM: it can't stand there");
        String[] tokens = {"some", "all", "b", "(", ")", "!", "&", "|", "^", ">", "=", ";", ":", "0", "1"};
        // What is behind the token tells which tokens may stand there.
        mayFollow("", tokens, " some all : ");
        mayFollow("some", tokens, " b ");
        mayFollow("all", tokens, " b ");
        mayFollow("some a", tokens, " b ; : ");
        mayFollow("some a c", tokens, " b ; : ");
        mayFollow("some a;", tokens, " some all ");
        mayFollow("some a;all c;", tokens, " some all ");
        mayFollow("some b:", tokens, " b ( ! 0 1 ");
        mayFollow("some b:(", tokens, " b ( ! 0 1 ");
        mayFollow("some b:!", tokens, " b ( ! 0 1 ");
        mayFollow("some b:b", tokens, " & | ^ > = ");
        mayFollow("some b:(b)", tokens, " & | ^ > = ");
        mayFollow("some b:!0", tokens, " & | ^ > = ");
        mayFollow("some b:(b", tokens, " ) & | ^ > = ");
        mayFollow("some b:((b)", tokens, " ) & | ^ > = ");
        mayFollow("some b:!(b&b", tokens, " ) & | ^ > = ");
        for (String sign : new String[] {"&", "|", "^", ">", "="}) {
            mayFollow("some b:1" + sign, tokens, " b ( ! 0 1 ");
        }
    }

    private static void mayFollow(String ahead, String[] tokens, String allowed) {
        int place = ahead.length() + 1;
        for (String token : tokens) {
            String text = ahead + " " + token;
            ChoiceGame x = new ChoiceGame();
            Check.read(x, text);
            if (allowed.contains(" " + token + " ")) {
                // The end comes too early at the most.
                boolean fine = x.fault(0) == 0 || x.fault(0) == 1 && x.fault(1) == text.length();
                CHECK.due("'" + text + "' is fine up to its end", fine, true);
            } else {
                CHECK.faulty(text, 1, place);
            }
        }
    }

    private static void theEndToo() {
        CHECK.sentence("it can't stand there (the end, too)");
        String[] tooEarly = {"", "some", "some a", "some a b", "some a;", "some a:", "some a:!", "some a:(", "some a:a&",
            "some a:(a", "some a:((a)", "some a:!(a", "some a:a>"};
        for (String text : tooEarly) {
            CHECK.faulty(text, 1, text.length());
            CHECK.faulty(text + " \n", 1, text.length() + 2);
        }
        CHECK.fine("some a:a", 1);
        CHECK.fine("some a:a \n", 1);
        CHECK.fine("some a:(a)", 1);
        CHECK.fine("some a:!(a)", 1);
    }

    private static void orIsNone() {
        CHECK.sentence("or is none");
        for (String none : new String[] {"?", "A", "ab", "a00", "12", "2", "\t", "\0", "\377", "~", "<", "-", "#", "\r", "sOme"}) {
            CHECK.faulty(none, 1, 0);
            CHECK.faulty("some " + none, 1, 5);
            CHECK.faulty("some a " + none, 1, 7);
            CHECK.faulty("some a;" + none, 1, 7);
            CHECK.faulty("some a:" + none, 1, 7);
            CHECK.faulty("some a:a " + none, 1, 9);
            CHECK.faulty("some a:(a " + none, 1, 10);
        }
    }

    private static void the21stOpen() {
        CHECK.sentence("the 21st ( or ! that is open");
        CHECK.fine(":" + open(20) + "1" + close(20), 0);
        CHECK.faulty(":" + open(21) + "1" + close(21), 1, 21);
        CHECK.faulty(":" + open(21), 1, 21);
        CHECK.faulty(":" + open(20), 1, 21);
        CHECK.fine(":" + Check.times("!", 20) + "1", 0);
        CHECK.faulty(":" + Check.times("!", 21) + "1", 1, 21);
        for (int bangs = 0; bangs <= 20; bangs++) {
            String mixed = Check.times("!", bangs) + open(20 - bangs);
            CHECK.fine(":" + mixed + "1" + close(20 - bangs), 0);
            CHECK.faulty(":" + mixed + "(1)" + close(20 - bangs), 1, 21);
            CHECK.faulty(":" + mixed + "!1" + close(20 - bangs), 1, 21);
        }
        // What is closed is not counted any more.
        CHECK.fine(":" + Check.times("(1)&", 30) + "1", 0);
        CHECK.fine(":" + open(19) + Check.times("(1)&", 20) + "(1)" + close(19), 0);
        CHECK.faulty(":" + open(19) + Check.times("(1)&", 20) + "((1))" + close(19), 1, 101);
        CHECK.fine(":" + open(20) + "1" + close(20) + "&" + open(20) + "1" + close(20), 0);
        CHECK.faulty(":" + open(20) + "1" + close(20) + "&" + open(21) + "1", 1, 63);
        // Each read begins with none open.
        ChoiceGame x = new ChoiceGame();
        Check.read(x, ":" + open(15));
        CHECK.due("another text behind 15 that stay open", Check.read(x, ":" + open(20) + "1" + close(20)), 0);
    }

    private static void openTillLevelSixEnds() {
        CHECK.sentence("(a ! is till its LEVEL 6 ends)");
        CHECK.fine(":" + Check.times("!1&", 21) + "1", 0);
        CHECK.fine("some a:" + Check.times("!a|", 21) + "a", 1);
        CHECK.fine(":!1&" + open(20) + "1" + close(20), 0);
        CHECK.faulty(":!1&" + open(21) + "1" + close(21), 1, 24);
        CHECK.fine(":!(1)&" + open(20) + "1" + close(20), 0);
        CHECK.fine(":!!!(1)&" + open(20) + "1" + close(20), 0);
        CHECK.fine(":!(!1)&" + open(20) + "1" + close(20), 0);
        CHECK.fine(":!!!1&" + Check.times("!", 20) + "1", 0);
        // Within its ( ) it is open still, and with it all that stand ahead of it.
        CHECK.fine(":!(1&" + open(18) + "1" + close(19), 0);
        CHECK.faulty(":!(1&" + open(19) + "1" + close(20), 1, 23);
        CHECK.fine(":!(!1&" + open(18) + "1" + close(19), 0);
        CHECK.faulty(":!(!1&" + open(19) + "1" + close(20), 1, 24);
        CHECK.fine(":(!(1)&" + open(19) + "1" + close(20), 0);
        CHECK.faulty(":(!(1)&" + open(20) + "1" + close(21), 1, 26);
        CHECK.fine(":" + Check.times("!", 19) + "(1&0)", 0);
        CHECK.fine(":" + Check.times("!", 18) + "(1&!0&!0)", 0);
        CHECK.faulty(":" + Check.times("!", 19) + "(1&!0)", 1, 23);
    }

    private static void unknown() {
        CHECK.sentence("2 UNKNOWN: a NAME in the FORMULA that no BLOCK has");
        CHECK.faulty(":a", 2, 1);
        CHECK.fine("some a:a", 1);
        CHECK.faulty("some a:b", 2, 7);
        CHECK.faulty("some a:a1", 2, 7);
        CHECK.faulty("some a1:a", 2, 8);
        CHECK.faulty("some a1:a0", 2, 8);
        CHECK.faulty("some a1:b1", 2, 8);
        CHECK.fine("some a1:a1", 1);
        CHECK.fine("some a;all b;some c:c&b&a", 3);
        CHECK.faulty("some a;all b;some c:c&b&a&d", 2, 26);
        CHECK.fine(TEN_NAMES + ":a&j", 1);
        CHECK.faulty(TEN_NAMES + ":a&k", 2, 27);
        CHECK.faulty("some a:!(b", 2, 9);
        ChoiceGame x = Check.of("some a b:a&b");
        CHECK.due("a name of the former game's", Check.read(x, "some a:a&b"), -2);
        CHECK.due("its fault", x.fault(0), 2);
        CHECK.due("its place", x.fault(1), 9);
        CHECK.due("a name of the faulty text's", Check.read(x, ":a"), -2);
        CHECK.due("its fault", x.fault(0), 2);
    }

    private static void twice() {
        CHECK.sentence("3 TWICE: a NAME in BLOCKS again");
        CHECK.faulty("some a a:1", 3, 7);
        CHECK.faulty("some a b a:1", 3, 9);
        CHECK.faulty("some a;all a:1", 3, 11);
        CHECK.faulty("some a;some a:1", 3, 12);
        CHECK.faulty("some a;all b;some a:1", 3, 18);
        CHECK.faulty("some a1 a1:1", 3, 8);
        CHECK.fine("some a a0 a1 a9:1", 1);
        CHECK.fine("some a0 b0:1", 1);
        CHECK.fine("some a:a&a&a", 1);
        CHECK.faulty("some a b c d e f g h i i:1", 3, 23);
        ChoiceGame x = Check.of("some a b:a&b");
        CHECK.due("a name of the former game's", Check.read(x, "all a b:a&b"), 1);
        CHECK.due("a faulty text", Check.read(x, "all c d:"), -2);
        CHECK.due("a name of the faulty text's", Check.read(x, "some c d:1"), 1);
    }

    private static void the11thName() {
        CHECK.sentence("4 TOO MUCH: the 11th NAME in BLOCKS");
        CHECK.fine(TEN_NAMES + ":1", 1);
        CHECK.faulty(TEN_NAMES + " k:1", 4, 25);
        CHECK.faulty(TEN_NAMES + " k0", 4, 25);
        CHECK.faulty(TEN_NAMES + ";all k:1", 4, 29);
        CHECK.faulty(TEN_NAMES + ";some k:1", 4, 30);
        CHECK.fine(SIX_WORDS + " g h i j:1", 6);
        CHECK.faulty(SIX_WORDS + " g h i j k:1", 4, 47);
        CHECK.fine("some a b c d e;all f g h i j:1", 2);
        CHECK.faulty("some a b c d e;all f g h i j k:1", 4, 29);
        // A word behind ten names is fine; that no name may follow is told at the name.
        CHECK.faulty(TEN_NAMES + ";all:1", 1, 28);
        CHECK.fine(TEN_NAMES + ":a&b&c&d&e&f&g&h&i&j&a&b", 1);
    }

    private static void the7thWord() {
        CHECK.sentence("4 TOO MUCH: .. the 7th word some or all");
        CHECK.fine(SIX_WORDS + ":1", 6);
        CHECK.faulty(SIX_WORDS + ";some g:1", 4, 39);
        CHECK.faulty(SIX_WORDS + ";all g:1", 4, 39);
        CHECK.faulty(SIX_WORDS + ";all", 4, 39);
        CHECK.fine("all a;all b;all c;all d;all e;all f:1", 1);
        CHECK.faulty("all a;all b;all c;all d;all e;all f;all g:1", 4, 36);
        CHECK.faulty("all a;all b;all c;all d;all e;all f;some g:1", 4, 36);
        CHECK.faulty(SIX_WORDS + ";:1", 1, 39);
        ChoiceGame x = Check.of(SIX_WORDS + ":1");
        CHECK.due("each read counts anew", Check.read(x, SIX_WORDS + ":0"), 6);
    }

    private static void the161stToken() {
        CHECK.sentence("4 TOO MUCH: .. the 161st TOKEN");
        CHECK.fine(THEN_OPERATOR, 0);
        CHECK.fine(":" + Check.times(" 1\n&", 79) + " 1\n", 0);
        CHECK.faulty(THEN_OPERATOR + "&1", 4, 160);
        CHECK.faulty(":" + Check.times(" 1\n&", 79) + " 1\n =", 4, 321);
        CHECK.faulty(THEN_OPERAND + "1", 4, 160);
        CHECK.faulty(THEN_CLOSE + ")", 4, 160);
        CHECK.fine(":(" + Check.times("1&", 78) + "1)", 0);
        // The 160th, and then an end that can't stand there.
        CHECK.faulty(THEN_OPERAND, 1, 160);
        CHECK.faulty(THEN_CLOSE, 1, 160);
        CHECK.faulty(THEN_CLOSE + " \n", 1, 162);
        // Words, names, ; and : are tokens like all others: six of them here, in 14 bytes.
        String six = "some a0;all b:";
        String names = Check.times("a0&", 76);
        CHECK.fine(six + "!" + names + "b", 2);
        CHECK.faulty(six + "!!" + names + "b", 4, 14 + 2 + 228);
        CHECK.faulty(six + "!" + names + "b&a0", 4, 14 + 1 + 228 + 1);
        ChoiceGame x = Check.of(THEN_OPERATOR);
        CHECK.due("each read counts anew", Check.read(x, THEN_OPERATOR), 0);
        CHECK.due("again", Check.read(x, THEN_OPERATOR), 0);
        // Operands that wait for a > that is put to the right, as many as can be, are gone with their text.
        for (int times = 0; times < 4; times++) {
            CHECK.due("161 tokens", Check.read(x, ":0" + Check.times(">1", 80)), -2);
            CHECK.due("their fault", x.fault(0), 4);
        }
        CHECK.due("a text behind them", Check.read(x, ":(0|1)&1"), 0);
        CHECK.due("is written", Check.written(x), "(0|1)&1");
        CHECK.due("is true", x.truth(), 1);
    }

    private static void every161stToken() {
        CHECK.sentence("4 TOO MUCH: .. the 161st TOKEN, each that may stand there");
        for (String operand : new String[] {"0", "1", "(", "!"}) {
            CHECK.faulty(THEN_OPERAND + operand, 4, 160);
        }
        for (String operator : new String[] {"=", ">", "|", "^", "&"}) {
            CHECK.faulty(THEN_OPERATOR + operator, 4, 160);
        }
        String withNames = "some a b1:!" + Check.times("a&", 77);
        CHECK.faulty(withNames + "a b1", 1, withNames.length() + 2);
        CHECK.faulty(withNames + "!b1", 4, withNames.length() + 1);
        CHECK.faulty(withNames + "!a", 4, withNames.length() + 1);
        CHECK.fine(withNames + "b1", 1);
    }

    private static void theFirstToken() {
        CHECK.sentence("FAULTS, the first TOKEN with one");
        CHECK.faulty("some a a:)", 3, 7);
        CHECK.faulty("some a b a ?", 3, 9);
        CHECK.faulty("some a:b)", 2, 7);
        CHECK.faulty("some a:b&c", 2, 7);
        CHECK.faulty("some a a b b", 3, 7);
        CHECK.faulty(TEN_NAMES + " k a ?", 4, 25);
        CHECK.faulty(SIX_WORDS + ";some a ?", 4, 39);
        CHECK.faulty(THEN_OPERATOR + "&a ?", 4, 160);
        CHECK.faulty("some a ? a:b", 1, 7);
        CHECK.faulty("? a", 1, 0);
        CHECK.faulty(":" + open(21) + "a?", 1, 21);
    }

    private static void ofOneTheLeast() {
        CHECK.sentence("of one the least");
        // FORM and UNKNOWN.
        CHECK.faulty(":1 a", 1, 3);
        CHECK.faulty(":(1)a", 1, 4);
        // FORM and TWICE.
        CHECK.faulty("some a;a:1", 1, 7);
        // FORM and TOO MUCH: the 11th name, the 7th word, the 161st token.
        CHECK.faulty(TEN_NAMES + ";k:1", 1, 25);
        CHECK.faulty(SIX_WORDS + " some g:1", 1, 39);
        CHECK.faulty(THEN_OPERATOR + "1", 1, 159);
        CHECK.faulty(THEN_OPERATOR + " 1", 1, 161);
        CHECK.faulty(THEN_OPERATOR + ")", 1, 160);
        CHECK.faulty(THEN_OPERATOR + "(", 1, 160);
        CHECK.faulty(THEN_OPERATOR + "!", 1, 160);
        CHECK.faulty(THEN_OPERATOR + "?", 1, 160);
        CHECK.faulty(THEN_OPERAND + ")", 1, 160);
        CHECK.faulty(THEN_OPERAND + "&", 1, 160);
        CHECK.faulty(THEN_OPERAND + "all", 1, 160);
        // FORM by the 21st that is open, and TOO MUCH.
        String twenty = ":!1&" + Check.times("1&", 68) + open(20);
        CHECK.faulty(twenty + "(", 1, 160);
        CHECK.faulty(twenty + "!", 1, 160);
        CHECK.faulty(twenty + "1", 4, 160);
        CHECK.faulty(":" + Check.times("1&", 70) + open(19) + "(", 4, 160);
        // UNKNOWN and TOO MUCH.
        CHECK.faulty(THEN_OPERAND + "a", 2, 160);
        CHECK.faulty(THEN_OPERAND + "a1", 2, 160);
        // TWICE and TOO MUCH.
        CHECK.faulty(TEN_NAMES + " a:1", 3, 25);
        CHECK.faulty(TEN_NAMES + " j:1", 3, 25);
        CHECK.faulty(TEN_NAMES + ";all e:1", 3, 29);
    }
}
