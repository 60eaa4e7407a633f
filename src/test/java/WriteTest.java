/** Promises 15 (write), 16 (octet) and 17 (look). */
public final class WriteTest {
    private static final Check CHECK = new Check();
    private static final String NAMES = "some a b c d e9:";

    public static void main(String[] args) {
        fewParens();
        longFormulas();
        octets();
        writeLeavesTheGame();
        look();
        CHECK.end();
    }

    private static void written(String formula, String want) {
        CHECK.due("write of " + formula, Check.written(Check.of(NAMES + formula)), want);
    }

    private static void fewParens() {
        written(" ( a ) ", "a");
        written("((e9))&((0))", "e9&0");
        written("! ( ! (a) )", "!!a");
        written("!(a&b)", "!(a&b)");
        written("(!a)&b", "!a&b");
        written("!((a)=(b))", "!(a=b)");
        String[] fromTheLeft = {"=", "|", "^", "&"};
        for (String sign : fromTheLeft) {
            written("(a" + sign + "b)" + sign + "c", "a" + sign + "b" + sign + "c");
            written("a" + sign + "(b" + sign + "c)", "a" + sign + "(b" + sign + "c)");
        }
        written("a>(b>c)", "a>b>c");
        written("(a>b)>c", "(a>b)>c");
        written("(a>b)>(c>d)", "(a>b)>c>d");
        String levels = "=>|^&";
        for (int low = 0; low < 5; low++) {
            for (int high = low + 1; high < 5; high++) {
                char l = levels.charAt(low);
                char h = levels.charAt(high);
                written("(a" + h + "b)" + l + "(c" + h + "d)", "a" + h + "b" + l + "c" + h + "d");
                written("(a" + l + "b)" + h + "(c" + l + "d)", "(a" + l + "b)" + h + "(c" + l + "d)");
            }
        }
        written("(((a=b)=c)=((d>a)>(b|(c^(d&(!(e9)))))))", "a=b=c=(d>a)>b|c^d&!e9");
        written("((((a|b))&c)|d)^1", "((a|b)&c|d)^1");
        written("!(!(a|b)&c)", "!(!(a|b)&c)");
    }

    private static void longFormulas() {
        String chain = "e9" + Check.times(">e9", 76);
        written(chain, chain);
        written("(" + chain.substring(0, 215) + ")", chain.substring(0, 215));
        String deep = Check.times("(a>", 20) + "b" + Check.times(")", 20);
        written(deep, Check.times("a>", 20) + "b");
        String left = Check.times("(", 20) + "a" + Check.times("&b)", 20);
        written(left, "a" + Check.times("&b", 20));
        String kept = Check.times("a&(", 20) + "b&c" + Check.times(")", 20);
        written(kept, kept);
        CHECK.due("the longest", Check.of("all e9:" + chain + ">e9").write(), 2 * 78 + 77);
        CHECK.due("its value", Check.of("all e9:" + chain + ">e9").truth(), 1);
    }

    private static void octets() {
        ChoiceGame x = Check.of("some a e0:(a>e0)");
        CHECK.due("octet ahead of write", x.octet(0), -1);
        CHECK.due("write", x.write(), 4);
        CHECK.due("octet(0)", x.octet(0), 'a');
        CHECK.due("octet(1)", x.octet(1), '>');
        CHECK.due("octet(2)", x.octet(2), 'e');
        CHECK.due("octet(3)", x.octet(3), '0');
        for (int i : new int[] {-1, 4, 5, 320, 600, Integer.MIN_VALUE, Integer.MAX_VALUE}) {
            CHECK.due("octet(" + i + ")", x.octet(i), -1);
        }
        Check.read(x, ":0");
        CHECK.due("what was written stays", x.octet(3), '0');
        CHECK.due("write again", x.write(), 1);
        CHECK.due("octet(0)", x.octet(0), '0');
        CHECK.due("nothing of the former", x.octet(1), -1);
    }

    private static void writeLeavesTheGame() {
        ChoiceGame x = Check.of("some a;all b:a|b");
        x.play(1);
        CHECK.due("played names are written as names", Check.written(x), "a|b");
        CHECK.due("one block was played", x.look(2), 1);
        CHECK.due("turn", x.turn(), 1);
    }

    private static void look() {
        ChoiceGame x = Check.of("some a b0;all z9;all y;some c5:1");
        Check.feed(x, "some");
        int[] codes = {'a', 'b' + 256, 'z' + 2560, 'y', 'c' + 6 * 256};
        int[] blocks = {0, 0, 1, 1, 2};
        x.play(2);
        x.play(1);
        int[] values = {1, 0, 0, 1, -1};
        for (int what = -70; what < 140; what++) {
            int due = -1;
            if (what >= 0 && what <= 3) {
                due = new int[] {5, 3, 2, 20}[what];
            } else if (what >= 10 && what < 13) {
                due = new int[] {2, 2, 1}[what - 10];
            } else if (what >= 20 && what < 25) {
                due = codes[what - 20];
            } else if (what >= 40 && what < 45) {
                due = blocks[what - 40];
            } else if (what >= 60 && what < 65) {
                due = values[what - 60];
            }
            CHECK.due("look(" + what + ")", x.look(what), due);
        }
        CHECK.due("look(least)", x.look(Integer.MIN_VALUE), -1);
        CHECK.due("look(most)", x.look(Integer.MAX_VALUE), -1);
        x.undo();
        CHECK.due("a name whose move was taken back", x.look(62), -1);
        CHECK.due("a name that is played still", x.look(60), 1);
        ChoiceGame ten = Check.of("some a b c d e f g h i j:1");
        CHECK.due("look(29)", ten.look(29), 'j');
        CHECK.due("look(30)", ten.look(30), -1);
        CHECK.due("look(49)", ten.look(49), 0);
        CHECK.due("look(10)", ten.look(10), 10);
        ChoiceGame six = Check.of("some a;all b;some c;all d;some e;all f:1");
        CHECK.due("look(15)", six.look(15), 1);
        CHECK.due("look(16)", six.look(16), -1);
        CHECK.due("look(45)", six.look(45), 5);
    }
}
