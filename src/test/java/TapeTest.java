/** Promises 1 (a new object), 2 (feed) and 3 (read). */
public final class TapeTest {
    private static final Check CHECK = new Check();

    public static void main(String[] args) {
        newObject();
        feedCounts();
        feedPutsTheHighestByteFirst();
        readTakesTheFirstBytes();
        readRefuses();
        faultyReadKeepsTheGame();
        readBeginsAnew();
        readAnswersBlocks();
        CHECK.end();
    }

    private static void newObject() {
        ChoiceGame x = new ChoiceGame();
        CHECK.due("new: fault(0)", x.fault(0), 0);
        CHECK.due("new: fault(1)", x.fault(1), -1);
        CHECK.due("new: truth", x.truth(), 1);
        CHECK.due("new: turn", x.turn(), -1);
        CHECK.due("new: move", x.move(), -1);
        CHECK.due("new: moves", x.moves(), -1);
        CHECK.due("new: wins(0)", x.wins(0), -1);
        CHECK.due("new: play(0)", x.play(0), false);
        CHECK.due("new: undo", x.undo(), -1);
        CHECK.due("new: fixed", x.fixed(0, 0), -1);
        CHECK.due("new: turned", x.turned(0), -1);
        CHECK.due("new: models", x.models(), 1);
        CHECK.due("new: octet ahead of write", x.octet(0), -1);
        CHECK.due("new: write", Check.written(x), "1");
        for (int what = -5; what < 100; what++) {
            CHECK.due("new: look(" + what + ")", x.look(what), what >= 0 && what <= 3 ? 0 : -1);
        }
        CHECK.due("NONE", ChoiceGame.NONE, -1);
    }

    private static void feedCounts() {
        ChoiceGame x = new ChoiceGame();
        for (int n = 20; n <= 600; n += 20) {
            CHECK.due("feed to " + n, x.feed(0, 0, 0, 0, 0), n);
            CHECK.due("tape at " + n, x.look(3), n);
        }
        CHECK.due("feed of a full tape", x.feed(1, 2, 3, 4, 5), -1);
        CHECK.due("a full tape stays", x.look(3), 600);
        CHECK.due("read(601)", x.read(601), -1);
        CHECK.due("read(600)", x.read(600), -2);
        CHECK.due("feed behind a read", x.feed(0, 0, 0, 0, 0), 20);

        ChoiceGame full = new ChoiceGame();
        String text = "some a:" + Check.times(" ", 592) + "a";
        CHECK.due("a text of 600 bytes is fed", Check.feed(full, text), 600);
        CHECK.due("a refused feed", full.feed(-1, -1, -1, -1, -1), -1);
        CHECK.due("a text of 600 bytes is read", full.read(600), 1);
        CHECK.due("and is the game", full.moves(), 1);
    }

    private static void feedPutsTheHighestByteFirst() {
        ChoiceGame x = new ChoiceGame();
        x.feed(0x736f6d65, 0x20612062, 0x2063206e, 0x203a2061, 0x3e62266e);
        CHECK.due("five ints", x.read(20), 1);
        CHECK.due("are written", Check.written(x), "a>b&n");
        ChoiceGame high = new ChoiceGame();
        high.feed(0xba310000, 0, 0, 0, 0);
        CHECK.due("a byte above 127 is no colon", high.read(2), -2);
        CHECK.due("its place", high.fault(1), 0);
    }

    private static void readTakesTheFirstBytes() {
        ChoiceGame x = new ChoiceGame();
        Check.feed(x, ":10:0");
        CHECK.due("read(2) of :10:0", x.read(2), 0);
        CHECK.due("its formula", Check.written(x), "1");
        CHECK.due("the tape is empty then", x.look(3), 0);
        CHECK.due("nothing is left", x.read(1), -1);
        Check.feed(x, ":10:0");
        CHECK.due("read(3) of :10:0", x.read(3), -2);
        CHECK.due("10 is no token", x.fault(1), 1);
        CHECK.due("the tape is empty behind a fault, too", x.look(3), 0);
        Check.feed(x, "some a");
        Check.feed(x, ":0");
        CHECK.due("a text across two feeds", x.look(3), 40);
        CHECK.due("with zeros between", x.read(22), -2);
        CHECK.due("the first zero is none", x.fault(1), 6);
    }

    private static void readRefuses() {
        ChoiceGame x = new ChoiceGame();
        CHECK.due("read(1) of nothing", x.read(1), -1);
        CHECK.due("read(-1)", x.read(-1), -1);
        CHECK.due("no fault by NONE", x.fault(0), 0);
        CHECK.due("read(0)", x.read(0), -2);
        CHECK.due("fault of nothing", x.fault(0), 1);
        CHECK.due("place of nothing", x.fault(1), 0);
        Check.feed(x, "some a:!a");
        CHECK.due("read(21) of 20", x.read(21), -1);
        CHECK.due("read(least)", x.read(Integer.MIN_VALUE), -1);
        CHECK.due("read(most)", x.read(Integer.MAX_VALUE), -1);
        CHECK.due("the tape stays", x.look(3), 20);
        CHECK.due("the fault stays", x.fault(0), 1);
        CHECK.due("the game stays", x.look(0), 0);
        CHECK.due("read(9)", x.read(9), 1);
        CHECK.due("no fault now", x.fault(0), 0);
        CHECK.due("no place now", x.fault(1), -1);
    }

    private static void faultyReadKeepsTheGame() {
        ChoiceGame x = Check.of("some a; all b c; some d:a&(b|d)^c");
        x.play(1);
        x.play(2);
        CHECK.due("a faulty text", Check.read(x, "all q; some a b d9:a&q|r"), -2);
        CHECK.due("its fault", x.fault(0), 2);
        CHECK.due("names stay", x.look(0), 4);
        CHECK.due("blocks stay", x.look(1), 3);
        CHECK.due("played blocks stay", x.look(2), 2);
        CHECK.due("turn stays", x.turn(), 0);
        CHECK.due("b stays", x.look(61), 1);
        CHECK.due("the formula stays", Check.written(x), "a&(b|d)^c");
        CHECK.due("models stay", x.models(), 2);
        CHECK.due("undo", x.undo(), 2);
        CHECK.due("undo", x.undo(), 1);
        CHECK.due("undo", x.undo(), -1);
    }

    private static void readBeginsAnew() {
        ChoiceGame x = Check.of("some a; all b:a=b");
        x.play(1);
        x.play(0);
        CHECK.due("another text", Check.read(x, "all b7 c:b7|c"), 1);
        CHECK.due("none played", x.look(2), 0);
        CHECK.due("turn", x.turn(), 1);
        CHECK.due("nothing to undo", x.undo(), -1);
        CHECK.due("no value", x.look(60), -1);
        CHECK.due("models", x.models(), 3);
        CHECK.due("the formula", Check.written(x), "b7|c");
    }

    private static void readAnswersBlocks() {
        ChoiceGame x = new ChoiceGame();
        CHECK.due("no block", Check.read(x, ":1"), 0);
        CHECK.due("one block", Check.read(x, "all a b:1"), 1);
        CHECK.due("two of one word", Check.read(x, "some a;some b:1"), 1);
        CHECK.due("their names", x.look(10), 2);
        CHECK.due("three of one word, then another", Check.read(x, "all a;all b c;all d;some e:1"), 2);
        CHECK.due("their names", x.look(10), 4);
        CHECK.due("the other's names", x.look(11), 1);
        CHECK.due("in turn", Check.read(x, "all a;some b;all c;some d;all e;some f:1"), 6);
        CHECK.due("six words, one block", Check.read(x, "all a;all b;all c;all d;all e;all f:1"), 1);
        CHECK.due("blanks and line ends", Check.read(x, "\n some\na  b \n;all c\n:\n a\n&\nb "), 2);
    }
}
