/** Promise 4 (fault), and the text and its faults of PART 1. */
public final class FaultTest {
    private static final Check CHECK = new Check();

    public static void main(String[] args) {
        faultOfOthers();
        formInBlocks();
        formInFormula();
        tokens();
        open();
        unknown();
        twice();
        tooMuch();
        leastOfOneToken();
        CHECK.end();
    }

    private static void faulty(String text, int fault, int place) {
        CHECK.faulty(text, fault, place);
    }

    private static void fine(String text, int blocks) {
        CHECK.fine(text, blocks);
    }

    private static void faultOfOthers() {
        ChoiceGame x = new ChoiceGame();
        Check.read(x, "some:");
        for (int what : new int[] {-1, 2, 3, Integer.MIN_VALUE, Integer.MAX_VALUE}) {
            CHECK.due("fault(" + what + ")", x.fault(what), -1);
        }
        x.read(7);
        CHECK.due("a read that was NONE leaves the fault", x.fault(0), 1);
        CHECK.due("and its place", x.fault(1), 4);
        Check.read(x, ":0");
        CHECK.due("a fine read has none", x.fault(0), 0);
        CHECK.due("and no place", x.fault(1), -1);
    }

    private static void formInBlocks() {
        faulty("", 1, 0);
        faulty("  \n", 1, 3);
        faulty("a", 1, 0);
        faulty(";some a:1", 1, 0);
        faulty("some", 1, 4);
        faulty("some ", 1, 5);
        faulty("some:1", 1, 4);
        faulty("some;", 1, 4);
        faulty("some some a:1", 1, 5);
        faulty("some all a:1", 1, 5);
        faulty("some a all b:1", 1, 7);
        faulty("some a", 1, 6);
        faulty("some a;", 1, 7);
        faulty("some a;:1", 1, 7);
        faulty("some a;;all b:1", 1, 7);
        faulty("some a;b:1", 1, 7);
        faulty("some a,b:1", 1, 6);
        faulty("some 0:1", 1, 5);
        faulty("some (a):1", 1, 5);
        faulty("1", 1, 0);
    }

    private static void formInFormula() {
        faulty(":", 1, 1);
        faulty(": ", 1, 2);
        faulty("::1", 1, 1);
        faulty(":1:", 1, 2);
        faulty(":1;", 1, 2);
        faulty(":;", 1, 1);
        faulty(":1 1", 1, 3);
        faulty(":1(", 1, 2);
        faulty(":1!", 1, 2);
        faulty(":1)", 1, 2);
        faulty(":(1))", 1, 4);
        faulty(":()", 1, 2);
        faulty(":(1", 1, 3);
        faulty(":(1 ", 1, 4);
        faulty(":!", 1, 2);
        faulty(":!)", 1, 2);
        faulty(":&1", 1, 1);
        faulty(":1&", 1, 3);
        faulty(":1&&1", 1, 3);
        faulty(":1>)", 1, 3);
        faulty("some a:a some", 1, 9);
        faulty("some a:all", 1, 7);
        faulty("some a:a a", 1, 9);
        faulty("some a:(a)a", 1, 10);
        fine("some a:((a))&!!(!a)=0^1>a|a", 1);
    }

    private static void tokens() {
        faulty("Some a:1", 1, 0);
        faulty("some A:1", 1, 5);
        faulty("some ab:1", 1, 5);
        faulty("some a10:1", 1, 5);
        faulty("some aA:1", 1, 5);
        faulty("some aZ:1", 1, 5);
        faulty("some aza:1", 1, 5);
        faulty("some a@:1", 1, 6);
        faulty("some a[:1", 1, 6);
        faulty("some a`:1", 1, 6);
        faulty("some a{:1", 1, 6);
        faulty("some a/:1", 1, 6);
        faulty("some 1a:1", 1, 5);
        faulty("somea:1", 1, 0);
        faulty("some a;alls b:1", 1, 7);
        faulty("some a;al b:1", 1, 7);
        faulty(":00", 1, 1);
        faulty(":01", 1, 1);
        faulty(":2", 1, 1);
        faulty(":1 2", 1, 3);
        faulty("\t:1", 1, 0);
        faulty(":1\r", 1, 2);
        faulty(":1\0", 1, 2);
        faulty(":1\377", 1, 2);
        faulty(":[1", 1, 1);
        faulty(":{1", 1, 1);
        faulty(":@1", 1, 1);
        faulty(":`1", 1, 1);
        faulty(":/1", 1, 1);
        faulty(":_1", 1, 1);
        faulty(":1<1", 1, 2);
        fine("some s a0 a9 z z0:s&a0&a9&z&z0", 1);
        fine("some a:a&1", 1);
        fine("some a1:a1", 1);
        faulty("some a1:a 1", 2, 8);
        faulty("some a:a 1", 1, 9);
    }

    private static void open() {
        fine(":" + Check.times("(", 20) + "1" + Check.times(")", 20), 0);
        faulty(":" + Check.times("(", 21) + "1" + Check.times(")", 21), 1, 21);
        fine(":" + Check.times("!", 20) + "1", 0);
        faulty(":" + Check.times("!", 21) + "1", 1, 21);
        fine(":" + Check.times("!(", 10) + "1" + Check.times(")", 10), 0);
        faulty(":" + Check.times("!(", 10) + "!1" + Check.times(")", 10), 1, 21);
        faulty(":" + Check.times("(!", 10) + "(1)" + Check.times(")", 10), 1, 21);
        // A ! is closed by its LEVEL 6: the operand or the ) behind it.
        fine(":" + Check.times("!1&", 30) + "1", 0);
        fine(":" + Check.times("!(1)&", 25) + "1", 0);
        fine(":" + Check.times("(", 19) + "!1&!1&(1)" + Check.times(")", 19), 0);
        faulty(":" + Check.times("(", 19) + "!1&!!1" + Check.times(")", 19), 1, 24);
        fine(":!!(" + Check.times("(", 17) + "1" + Check.times(")", 18) + "&" + Check.times("(", 20) + "1" + Check.times(")", 20), 0);
        // A ! in front of a ( is open until the ) is there.
        faulty(":!(1&" + Check.times("(", 18) + "1&(1" + Check.times(")", 20), 1, 25);
    }

    private static void unknown() {
        faulty(":a", 2, 1);
        faulty("some a:a1", 2, 7);
        faulty("some a1:a", 2, 8);
        faulty("some a1:a2", 2, 8);
        faulty("some a:a&(b|c)", 2, 10);
        faulty("some a:b", 2, 7);
        faulty("some a:b&", 2, 7);
        faulty("some a:s", 2, 7);
    }

    private static void twice() {
        faulty("some a a:1", 3, 7);
        faulty("some a;all a:1", 3, 11);
        faulty("some a1 b;all c a1:1", 3, 16);
        faulty("some a b a", 3, 9);
        fine("some a a0 a1 b0 b:1", 1);
    }

    private static void tooMuch() {
        fine("some a b c d e f g h i j:1", 1);
        faulty("some a b c d e f g h i j k:1", 4, 25);
        faulty("some a b c d e f g h i j;all k:1", 4, 29);
        fine("some a b c d e f g h i j;some k".substring(0, 24) + ":j", 1);
        fine("some a;all b;some c;all d;some e;all f:1", 6);
        faulty("some a;all b;some c;all d;some e;all f;some g:1", 4, 39);
        faulty("some a;some b;some c;some d;some e;some f;some g:1", 4, 42);
        faulty("some a;all b;some c;all d;some e;all f;all:1", 4, 39);
        // 160 tokens: a colon, then 159 of the formula; the end is none of them.
        String most = ":" + Check.times("1&", 79) + "1";
        fine(most, 0);
        faulty(most + "&1", 4, 160);
        faulty(most + " &", 4, 161);
        faulty(":!" + Check.times("1&", 79) + "1", 4, 160);
        faulty(":!" + Check.times("1&", 79), 1, 160);
    }

    private static void leastOfOneToken() {
        String names = "some a b c d e f g h i j";
        faulty(names + " a:1", 3, 25);
        faulty(names + " some k:1", 1, 25);
        faulty("some a;all b;some c;all d;some e;all f some g:1", 1, 39);
        String full = ":" + Check.times("1&", 79) + "1";
        faulty(full + ")", 1, 160);
        faulty(full + "?", 1, 160);
        faulty(full + ":", 1, 160);
        faulty(full + " a", 1, 161);
        faulty(":!" + Check.times("1&", 79) + "a", 2, 160);
        faulty(":!" + Check.times("1&", 79) + "!", 4, 160);
        faulty(":!" + Check.times("1&", 79) + "&", 1, 160);
        faulty("some a:a b", 1, 9);
        // The first token with a fault, not the least fault of all.
        faulty("some a a:)", 3, 7);
        faulty("some a:b)", 2, 7);
    }
}
