import java.util.function.Supplier;
import java.util.function.ToIntFunction;

/**
 * "What is refused (NONE, false) changes nothing but the tape, where it is told." Each call that may be
 * refused, in each state that refuses it, between two looks at all that can be seen.
 */
public final class RefusalTest {
    private static final Check CHECK = new Check();
    private static final String TEXT = "some a b;all c1;some d:(a>b)&(c1^d)";
    private static final int LEAST = Integer.MIN_VALUE;
    private static final int MOST = Integer.MAX_VALUE;

    public static void main(String[] args) {
        inAnyState("new", ChoiceGame::new);
        inAnyState("begun", RefusalTest::begun);
        inAnyState("half played", RefusalTest::halfPlayed);
        inAnyState("played", RefusalTest::allPlayed);
        inAnyState("full", RefusalTest::fullTape);
        ofANewObject();
        ofABegunGame();
        ofAHalfPlayedGame();
        ofAPlayedGame();
        ofALostGame();
        ofAFullTape();
        tapeStaysAsItIs();
        faultyTextChangesTapeAndFault();
        askingChangesNothing();
        CHECK.end();
    }

    private static ChoiceGame begun() {
        return Check.of(TEXT);
    }

    /** With a fault, with bytes written and with bytes on the tape, so that each of them could be lost. */
    private static ChoiceGame halfPlayed() {
        ChoiceGame x = begun();
        x.play(1);
        x.play(0);
        x.write();
        Check.read(x, "some a a:1");
        Check.feed(x, ":0");
        return x;
    }

    private static ChoiceGame allPlayed() {
        ChoiceGame x = halfPlayed();
        x.play(1);
        return x;
    }

    private static ChoiceGame fullTape() {
        ChoiceGame x = begun();
        Check.feed(x, "all z:" + Check.times(" ", 593) + "z");
        return x;
    }

    private static int bit(boolean answer) {
        return answer ? 1 : 0;
    }

    /** The call answers what is due and leaves all as it was. */
    private static void leaves(String what, Supplier<ChoiceGame> state, int due, ToIntFunction<ChoiceGame> call) {
        ChoiceGame x = state.get();
        String before = Snapshot.of(x);
        CHECK.due(what, call.applyAsInt(x), due);
        CHECK.due(what + ", what is seen behind it", Snapshot.of(x), before);
    }

    private static void inAnyState(String state, Supplier<ChoiceGame> of) {
        CHECK.sentence("What is refused (NONE, false) changes nothing: " + state);
        for (int n : new int[] {-1, -20, LEAST, 601, MOST}) {
            leaves("read(" + n + ")", of, -1, x -> x.read(n));
        }
        for (int what : new int[] {-1, 2, LEAST, MOST}) {
            leaves("fault(" + what + ")", of, -1, x -> x.fault(what));
        }
        for (int m : new int[] {-1, 4, 1024, LEAST, MOST}) {
            leaves("wins(" + m + ")", of, -1, x -> x.wins(m));
            leaves("play(" + m + ")", of, 0, x -> bit(x.play(m)));
        }
        for (int k : new int[] {-1, 4, 10, LEAST, MOST}) {
            leaves("fixed(" + k + ", 0)", of, -1, x -> x.fixed(k, 0));
            leaves("fixed(" + k + ", 1)", of, -1, x -> x.fixed(k, 1));
        }
        for (int value : new int[] {-1, 2, LEAST, MOST}) {
            leaves("fixed(0, " + value + ")", of, -1, x -> x.fixed(0, value));
        }
        for (int b : new int[] {-1, 3, 6, LEAST, MOST}) {
            leaves("turned(" + b + ")", of, -1, x -> x.turned(b));
        }
        for (int i : new int[] {-1, 12, 320, LEAST, MOST}) {
            leaves("octet(" + i + ")", of, -1, x -> x.octet(i));
        }
        for (int what : new int[] {-1, 4, 9, 13, 16, 24, 30, 39, 44, 50, 59, 64, 70, LEAST, MOST}) {
            leaves("look(" + what + ")", of, -1, x -> x.look(what));
        }
    }

    private static void ofANewObject() {
        CHECK.sentence("What is refused (NONE, false) changes nothing: a new object");
        Supplier<ChoiceGame> of = ChoiceGame::new;
        leaves("read(1)", of, -1, x -> x.read(1));
        leaves("turn()", of, -1, ChoiceGame::turn);
        leaves("move()", of, -1, ChoiceGame::move);
        leaves("moves()", of, -1, ChoiceGame::moves);
        leaves("wins(0)", of, -1, x -> x.wins(0));
        leaves("play(0)", of, 0, x -> bit(x.play(0)));
        leaves("undo()", of, -1, ChoiceGame::undo);
        leaves("fixed(0, 0)", of, -1, x -> x.fixed(0, 0));
        leaves("turned(0)", of, -1, x -> x.turned(0));
        leaves("octet(0)", of, -1, x -> x.octet(0));
        leaves("fault(1)", of, -1, x -> x.fault(1));
    }

    private static void ofABegunGame() {
        CHECK.sentence("What is refused (NONE, false) changes nothing: none played");
        Supplier<ChoiceGame> of = RefusalTest::begun;
        leaves("undo()", of, -1, ChoiceGame::undo);
        leaves("read(1)", of, -1, x -> x.read(1));
        leaves("octet(0)", of, -1, x -> x.octet(0));
        leaves("look(60)", of, -1, x -> x.look(60));
    }

    private static void ofAHalfPlayedGame() {
        CHECK.sentence("What is refused (NONE, false) changes nothing: two blocks played");
        Supplier<ChoiceGame> of = RefusalTest::halfPlayed;
        leaves("read(21)", of, -1, x -> x.read(21));
        leaves("wins(2)", of, -1, x -> x.wins(2));
        leaves("play(2)", of, 0, x -> bit(x.play(2)));
        leaves("turned(0)", of, -1, x -> x.turned(0));
        leaves("turned(1)", of, -1, x -> x.turned(1));
        leaves("look(63)", of, -1, x -> x.look(63));
    }

    private static void ofAPlayedGame() {
        CHECK.sentence("What is refused (NONE, false) changes nothing: all played");
        Supplier<ChoiceGame> of = RefusalTest::allPlayed;
        leaves("turn()", of, -1, ChoiceGame::turn);
        leaves("move()", of, -1, ChoiceGame::move);
        leaves("moves()", of, -1, ChoiceGame::moves);
        leaves("wins(0)", of, -1, x -> x.wins(0));
        leaves("play(0)", of, 0, x -> bit(x.play(0)));
        leaves("play(1)", of, 0, x -> bit(x.play(1)));
        leaves("turned(2)", of, -1, x -> x.turned(2));
    }

    private static void ofALostGame() {
        CHECK.sentence("What is refused (NONE, false) changes nothing: no move wins");
        leaves("move() of some", () -> Check.of("some a b;all c:0"), -1, ChoiceGame::move);
        leaves("move() of all", () -> Check.of("all a b;some c:1"), -1, ChoiceGame::move);
    }

    private static void ofAFullTape() {
        CHECK.sentence("What is refused (NONE, false) changes nothing: a full tape");
        Supplier<ChoiceGame> of = RefusalTest::fullTape;
        leaves("feed of bytes 255", of, -1, x -> x.feed(-1, -1, -1, -1, -1));
        leaves("feed of zeros", of, -1, x -> x.feed(0, 0, 0, 0, 0));
        ChoiceGame x = fullTape();
        x.feed(-1, -1, -1, -1, -1);
        CHECK.due("the text is as it was fed", x.read(600), 1);
        CHECK.due("its name", x.look(20), 'z');
    }

    private static void tapeStaysAsItIs() {
        CHECK.sentence("changes nothing but the tape, where it is told: a read that is NONE tells of no change");
        for (int n : new int[] {-1, 21, 601, LEAST, MOST}) {
            ChoiceGame x = new ChoiceGame();
            Check.feed(x, "some a:!a");
            CHECK.due("read(" + n + ")", x.read(n), -1);
            CHECK.due("the tape behind it", x.look(3), 20);
            CHECK.due("is fed on", x.feed(0, 0, 0, 0, 0), 40);
            CHECK.due("and read", x.read(9), 1);
            CHECK.due("as it was fed", Check.written(x), "!a");
        }
    }

    private static void faultyTextChangesTapeAndFault() {
        CHECK.sentence("Promise 3: -2 .. the former GAME stays; the tape (empty then)");
        ChoiceGame x = halfPlayed();
        String before = Snapshot.ofGame(x);
        CHECK.due("a faulty read", x.read(1), -2);
        CHECK.due("the game and what was written", Snapshot.ofGame(x), before);
        CHECK.due("the tape", x.look(3), 0);
        CHECK.due("the fault", x.fault(0), 1);
        CHECK.due("its place", x.fault(1), 1);
    }

    private static void askingChangesNothing() {
        CHECK.sentence("a call that asks changes nothing");
        Supplier<ChoiceGame> of = RefusalTest::halfPlayed;
        leaves("truth()", of, 1, ChoiceGame::truth);
        leaves("turn()", of, 0, ChoiceGame::turn);
        leaves("move()", of, 1, ChoiceGame::move);
        leaves("moves()", of, 1, ChoiceGame::moves);
        leaves("wins(0)", of, 0, x -> x.wins(0));
        leaves("wins(1)", of, 1, x -> x.wins(1));
        leaves("fixed(0, 1)", of, 1, x -> x.fixed(0, 1));
        leaves("fixed(1, 0)", of, 1, x -> x.fixed(1, 0));
        leaves("fixed(2, 1)", of, 1, x -> x.fixed(2, 1));
        leaves("fixed(3, 0)", of, 0, x -> x.fixed(3, 0));
        leaves("turned(2)", of, 0, x -> x.turned(2));
        leaves("models()", of, 1, ChoiceGame::models);
        leaves("write()", of, 12, ChoiceGame::write);
        leaves("fault(0)", of, 3, x -> x.fault(0));
        leaves("fault(1)", of, 7, x -> x.fault(1));
        leaves("octet(0)", of, '(', x -> x.octet(0));
        leaves("look(3)", of, 20, x -> x.look(3));
    }
}
