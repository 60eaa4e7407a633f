/** Promises 1 to 4, sentence by sentence: a new object, feed, read, fault. */
public final class TapeEdgesTest {
    private static final Check CHECK = new Check();
    private static final int BLANKS = 0x20202020;

    public static void main(String[] args) {
        noText();
        theConstant();
        highestFirst();
        behindTheTape();
        howManyItHas();
        moreThan600();
        firstBytes();
        emptyThen();
        howManyBlocks();
        nonePlayed();
        nothingOfTheFormer();
        formerGameStays();
        notSoMany();
        belowZero();
        faultZeroWithout();
        placeOfAToken();
        placeOfTheEnd();
        faultOfOthers();
        aheadOfAny();
        latestThatWasNotNone();
        CHECK.end();
    }

    private static void noText() {
        CHECK.sentence("Promise 1: No text: no NAMES, the FORMULA 1");
        ChoiceGame x = new ChoiceGame();
        CHECK.due("octet ahead of any write", x.octet(0), -1);
        CHECK.due("names", x.look(0), 0);
        CHECK.due("blocks", x.look(1), 0);
        CHECK.due("played", x.look(2), 0);
        CHECK.due("bytes of the tape", x.look(3), 0);
        CHECK.due("block 0", x.look(10), -1);
        CHECK.due("name 0", x.look(20), -1);
        CHECK.due("its block", x.look(40), -1);
        CHECK.due("its value", x.look(60), -1);
        CHECK.due("truth", x.truth(), 1);
        CHECK.due("turn", x.turn(), -1);
        CHECK.due("move", x.move(), -1);
        CHECK.due("wins(0)", x.wins(0), -1);
        CHECK.due("moves", x.moves(), -1);
        CHECK.due("play(0)", x.play(0), false);
        CHECK.due("undo", x.undo(), -1);
        CHECK.due("fixed(0, 0)", x.fixed(0, 0), -1);
        CHECK.due("fixed(0, 1)", x.fixed(0, 1), -1);
        CHECK.due("turned(0)", x.turned(0), -1);
        CHECK.due("models", x.models(), 1);
        CHECK.due("fault(0)", x.fault(0), 0);
        CHECK.due("fault(1)", x.fault(1), -1);
        CHECK.due("write", x.write(), 1);
        CHECK.due("octet(0)", x.octet(0), '1');
        CHECK.due("octet(1)", x.octet(1), -1);
        CHECK.due("read(0) of the empty tape", x.read(0), -2);
        CHECK.due("the formula is 1 behind it, too", x.truth(), 1);
    }

    private static void theConstant() {
        CHECK.sentence("NONE = -1: There is none");
        CHECK.due("NONE", ChoiceGame.NONE, -1);
    }

    /** The byte at that place of twenty is 255, all others are blanks. */
    private static void feedMarked(ChoiceGame x, int place) {
        int[] ints = {BLANKS, BLANKS, BLANKS, BLANKS, BLANKS};
        ints[place / 4] |= 255 << 24 - 8 * (place % 4);
        x.feed(ints[0], ints[1], ints[2], ints[3], ints[4]);
    }

    private static void highestFirst() {
        CHECK.sentence("Promise 2: Twenty bytes come .., the highest of each int first");
        for (int place = 0; place < 20; place++) {
            ChoiceGame x = new ChoiceGame();
            feedMarked(x, place);
            CHECK.due("a byte 255 at " + place, x.read(20), -2);
            CHECK.due("the place of a byte 255 at " + place, x.fault(1), place);
        }
        // The letters z to g of a text, one a byte: all twenty are told apart.
        ChoiceGame y = new ChoiceGame();
        y.feed(0x736f6d65, 0x207a2079, 0x20783977, 0x3a207a26, 0x79207c30);
        CHECK.due("some z y x9w: z&y |0", y.read(20), -2);
        CHECK.due("x9w is none", y.fault(1), 9);
        ChoiceGame z = new ChoiceGame();
        z.feed(0x736f6d65, 0x207a2079, 0x20783920, 0x3a207a26, 0x79207c30);
        CHECK.due("some z y x9 : z&y |0", z.read(20), 1);
        CHECK.due("its names", z.look(0), 3);
        CHECK.due("is written", Check.written(z), "z&y|0");
        // The lowest eight bits of what is shifted, whatever the sign.
        ChoiceGame negative = new ChoiceGame();
        negative.feed(-1, -1, -1, -1, -1);
        CHECK.due("bytes 255", negative.read(1), -2);
        negative.feed(0x3a31ffff, -1, -1, -1, -1);
        CHECK.due("bytes 58 and 49, then 255", negative.read(2), 0);
        negative.feed(0xba310000, 0, 0, 0, 0);
        CHECK.due("a byte 186 is no :", negative.read(2), -2);
    }

    private static void behindTheTape() {
        CHECK.sentence("Promise 2: Twenty bytes come behind the tape");
        for (int feeds = 0; feeds < 29; feeds += 7) {
            ChoiceGame x = new ChoiceGame();
            for (int i = 0; i < feeds; i++) {
                x.feed(BLANKS, BLANKS, BLANKS, BLANKS, BLANKS);
            }
            feedMarked(x, 3);
            feedMarked(x, 0);
            CHECK.due("a byte 255 behind " + feeds + " feeds", x.read(20 * feeds + 40), -2);
            CHECK.due("its place behind " + feeds + " feeds", x.fault(1), 20 * feeds + 3);
        }
        ChoiceGame last = new ChoiceGame();
        for (int i = 0; i < 29; i++) {
            last.feed(BLANKS, BLANKS, BLANKS, BLANKS, BLANKS);
        }
        feedMarked(last, 19);
        CHECK.due("a byte 255 at the tape's end", last.read(600), -2);
        CHECK.due("its place", last.fault(1), 599);
    }

    private static void howManyItHas() {
        CHECK.sentence("Promise 2: how many it has");
        ChoiceGame x = new ChoiceGame();
        for (int n = 20; n <= 600; n += 20) {
            CHECK.due("feed to " + n, x.feed(n, 0, 0, 0, 0), n);
        }
        x.read(0);
        CHECK.due("feed of an emptied tape", x.feed(0, 0, 0, 0, 0), 20);
    }

    private static void moreThan600() {
        CHECK.sentence("Promise 2: NONE if that would be more than 600");
        ChoiceGame x = new ChoiceGame();
        Check.feed(x, ":1" + Check.times(" ", 578));
        CHECK.due("580 bytes", x.look(3), 580);
        CHECK.due("20 more", x.feed(BLANKS, BLANKS, BLANKS, BLANKS, BLANKS), 600);
        CHECK.due("20 more than 600", x.feed(-1, -1, -1, -1, -1), -1);
        CHECK.due("again", x.feed(-1, -1, -1, -1, -1), -1);
        CHECK.due("600 stay", x.look(3), 600);
        CHECK.due("as they were", x.read(600), 0);
        CHECK.due("the tape takes more then", x.feed(-1, -1, -1, -1, -1), 20);
    }

    private static void firstBytes() {
        CHECK.sentence("Promise 3: The first n bytes of the tape .. are read as a TEXT");
        String text = "some a0;all b:a0&b>1";
        // What each shorter text lacks is told at its end, or at the token that it cuts.
        int[] places = {0, 0, 0, 0, 4, 5, 6, 7, 8, 8, 8, 11, 12, 13, 14, 14};
        for (int n = 0; n < places.length; n++) {
            ChoiceGame x = new ChoiceGame();
            Check.feed(x, text);
            CHECK.due("read(" + n + ")", x.read(n), -2);
            CHECK.due("its place", x.fault(1), places[n]);
        }
        String[] written = {"a0", null, "a0&b", null, "a0&b>1"};
        for (int n = 16; n <= 20; n++) {
            ChoiceGame x = new ChoiceGame();
            Check.feed(x, text);
            boolean cut = written[n - 16] == null;
            CHECK.due("read(" + n + ")", x.read(n), cut ? -2 : 2);
            CHECK.due("written", Check.written(x), cut ? "1" : written[n - 16]);
            CHECK.due("its place", x.fault(1), cut ? n : -1);
        }
    }

    private static void emptyThen() {
        CHECK.sentence("Promise 3: the tape (empty then)");
        ChoiceGame x = new ChoiceGame();
        Check.feed(x, ":1" + Check.times(" ", 38));
        CHECK.due("read(2) of 40", x.read(2), 0);
        CHECK.due("the rest is gone", x.look(3), 0);
        CHECK.due("read(1) of none", x.read(1), -1);
        CHECK.due("read(0) of none", x.read(0), -2);
        Check.feed(x, ":");
        CHECK.due("a faulty read(1) of 20", x.read(1), -2);
        CHECK.due("the rest is gone, too", x.look(3), 0);
        Check.feed(x, ":1");
        CHECK.due("read(0) of 20", x.read(0), -2);
        CHECK.due("empty behind read(0)", x.look(3), 0);
        Check.feed(x, ":0");
        CHECK.due("new bytes begin the tape", x.read(2), 0);
        CHECK.due("and are the game", x.truth(), 0);
    }

    private static void howManyBlocks() {
        CHECK.sentence("Promise 3: how many BLOCKS");
        String[] words = {"some a", "all b", "some c", "all d", "some e", "all f"};
        StringBuilder blocks = new StringBuilder();
        ChoiceGame x = new ChoiceGame();
        CHECK.due("none", Check.read(x, ":1"), 0);
        for (int n = 1; n <= 6; n++) {
            blocks.append(n == 1 ? "" : ";").append(words[n - 1]);
            CHECK.due(blocks.toString(), Check.read(x, blocks + ":1"), n);
            CHECK.due("look(1)", x.look(1), n);
        }
        CHECK.due("words of one block", Check.read(x, "all a;all b;some c;some d:1"), 2);
    }

    private static void nonePlayed() {
        CHECK.sentence("Promise 3: and it's the GAME now, none played");
        ChoiceGame x = Check.of("some a b;all c:a&b&c");
        x.play(3);
        x.play(1);
        CHECK.due("two were played", x.look(2), 2);
        CHECK.due("the same text again", Check.read(x, "some a b;all c:a&b&c"), 2);
        CHECK.due("none was played", x.look(2), 0);
        CHECK.due("turn", x.turn(), 0);
        CHECK.due("undo", x.undo(), -1);
        CHECK.due("a has no value", x.look(60), -1);
        CHECK.due("models", x.models(), 1);
        CHECK.due("another text", Check.read(x, ":0"), 0);
        CHECK.due("names of it", x.look(0), 0);
        CHECK.due("truth of it", x.truth(), 0);
        CHECK.due("no name of the former", x.look(20), -1);
        CHECK.due("no block of the former", x.look(10), -1);
    }

    private static void nothingOfTheFormer() {
        CHECK.sentence("Promise 3: and it's the GAME now (nothing of what was read before)");
        String[] fine = {":0", "some a:a", "all b;some a c:(a|b)&(!a|c)", "some a b;all c;some d e;all f:((a&b)>(c^(d^e)))=f",
            "some a b c d e f g h i j:a&b&c|d&e&f&(g|!h|i)&j", ":1" + Check.times("&!0", 52), "some a;some b;all c;all d;some e:!(a=b)|c>d&e"};
        String[] faulty = {"", "all a b c d e f g", "some a;all b;some c;all d;some e;all f;some g", "all a b:!(a&(b|(",
            ":((1&(0|(1", "some a:!!!a&a1", ":0" + Check.times(">!1", 60)};
        for (String last : fine) {
            ChoiceGame fresh = Check.of(last);
            String formula = Check.written(fresh);
            String due = Snapshot.of(fresh);
            for (int first = 0; first < fine.length * fine.length; first++) {
                ChoiceGame x = new ChoiceGame();
                readAndPlay(x, fine[first % fine.length]);
                readAndPlay(x, faulty[first % fine.length]);
                readAndPlay(x, fine[first / fine.length]);
                readAndPlay(x, faulty[first / fine.length]);
                String what = fine[first % fine.length] + " then " + fine[first / fine.length] + " then " + last;
                Check.read(x, last);
                CHECK.due(what + ", written", Check.written(x), formula);
                CHECK.due(what, Snapshot.of(x), due);
            }
        }
    }

    private static void readAndPlay(ChoiceGame x, String text) {
        Check.read(x, text);
        x.write();
        x.play(1);
        x.play(1);
    }

    private static void formerGameStays() {
        CHECK.sentence("Promise 3: -2: it has a FAULT (the former GAME stays, as it is played)");
        String[] faulty = {"", "all z", "all z:", "all z:y", "all z;some y z:1", "all z;some y;all x:x&y&z)",
            "all k l m n o p q r s t u:1", "some p;all q;some r;all s;some t;all u;some v:1", ":!" + Check.times("1&", 79) + "1"};
        for (String text : faulty) {
            ChoiceGame x = Check.of("some a b1;all c;some d:(a>b1)&(c^d)");
            x.play(1);
            x.play(0);
            x.write();
            String before = Snapshot.ofGame(x);
            CHECK.due("read of '" + text + "'", Check.read(x, text), -2);
            CHECK.due("the game behind '" + text + "'", Snapshot.ofGame(x), before);
            CHECK.due("the formula behind '" + text + "'", Check.written(x), "(a>b1)&(c^d)");
            CHECK.due("the latest move", x.undo(), 0);
            CHECK.due("the one before", x.undo(), 1);
            CHECK.due("no other", x.undo(), -1);
        }
    }

    private static void notSoMany() {
        CHECK.sentence("Promise 3: NONE: it has not so many");
        ChoiceGame x = new ChoiceGame();
        CHECK.due("read(1) of none", x.read(1), -1);
        Check.feed(x, ":1");
        for (int n : new int[] {21, 22, 40, 600, 601, 1 << 20, Integer.MAX_VALUE}) {
            CHECK.due("read(" + n + ") of 20", x.read(n), -1);
        }
        CHECK.due("read(20) of 20 is none of these", x.read(20), -2);
        Check.feed(x, ":1" + Check.times(" ", 598));
        CHECK.due("read(601) of 600", x.read(601), -1);
        CHECK.due("read(600) of 600", x.read(600), 0);
    }

    private static void belowZero() {
        CHECK.sentence("Promise 3: NONE: .. or n is below 0");
        ChoiceGame x = new ChoiceGame();
        Check.feed(x, ":1");
        for (int n : new int[] {-1, -2, -20, -600, Integer.MIN_VALUE}) {
            CHECK.due("read(" + n + ")", x.read(n), -1);
        }
        CHECK.due("the tape stays", x.look(3), 20);
        CHECK.due("read(0) is none of these", x.read(0), -2);
        CHECK.due("fault of the empty text", x.fault(0), 1);
        CHECK.due("its place", x.fault(1), 0);
    }

    private static void faultZeroWithout() {
        CHECK.sentence("Promise 4: 0 its FAULT (0 without), 1 its place (NONE without)");
        String[] texts = {":1", ":", ":a", "some a a:1", "some a b c d e f g h i j k:1"};
        int[] places = {-1, 1, 1, 7, 25};
        ChoiceGame x = new ChoiceGame();
        for (int fault = 0; fault < texts.length; fault++) {
            Check.read(x, texts[fault]);
            CHECK.due("fault of " + texts[fault], x.fault(0), fault);
            CHECK.due("place in " + texts[fault], x.fault(1), places[fault]);
        }
        Check.read(x, ":1");
        CHECK.due("a fine read behind them", x.fault(0), 0);
        CHECK.due("has no place", x.fault(1), -1);
    }

    private static void placeOfAToken() {
        CHECK.sentence("Promise 4: 1 its place: a TOKEN's first byte");
        CHECK.faulty("abc", 1, 0);
        CHECK.faulty("some all", 1, 5);
        CHECK.faulty("some  \n all", 1, 8);
        CHECK.faulty("some a0 a0:1", 3, 8);
        CHECK.faulty("some a:a&b9", 2, 9);
        CHECK.faulty("some a:a& \n b9", 2, 12);
        CHECK.faulty("some a b c d e f g h i j k1:1", 4, 25);
    }

    private static void placeOfTheEnd() {
        CHECK.sentence("Promise 4: the end: the text's length");
        CHECK.faulty("", 1, 0);
        CHECK.faulty(" ", 1, 1);
        CHECK.faulty(":", 1, 1);
        CHECK.faulty(": ", 1, 2);
        CHECK.faulty(":(1 \n\n ", 1, 7);
        CHECK.faulty(":1&" + Check.times(" ", 597), 1, 600);
        ChoiceGame x = new ChoiceGame();
        Check.feed(x, ":1&1");
        CHECK.due("a shorter text than the tape", x.read(3), -2);
        CHECK.due("its length", x.fault(1), 3);
    }

    private static void faultOfOthers() {
        CHECK.sentence("Promise 4: NONE for others");
        ChoiceGame x = new ChoiceGame();
        for (String text : new String[] {":1", ":"}) {
            Check.read(x, text);
            for (int what : new int[] {-1, -2, 2, 3, 10, 256, Integer.MIN_VALUE, Integer.MAX_VALUE}) {
                CHECK.due("fault(" + what + ")", x.fault(what), -1);
            }
        }
        CHECK.due("fault(0) is none of these", x.fault(0), 1);
        CHECK.due("fault(1) is none of these", x.fault(1), 1);
    }

    private static void aheadOfAny() {
        CHECK.sentence("Promise 4: and 0 and NONE ahead of any");
        ChoiceGame x = new ChoiceGame();
        CHECK.due("fault(0)", x.fault(0), 0);
        CHECK.due("fault(1)", x.fault(1), -1);
        CHECK.due("fault(2)", x.fault(2), -1);
        x.read(1);
        x.read(-1);
        CHECK.due("fault(0) behind reads that were NONE", x.fault(0), 0);
        CHECK.due("fault(1) behind reads that were NONE", x.fault(1), -1);
        x.read(0);
        CHECK.due("fault(0) behind a faulty read", x.fault(0), 1);
        CHECK.due("fault(1) behind a faulty read", x.fault(1), 0);
    }

    private static void latestThatWasNotNone() {
        CHECK.sentence("Promise 4: Of the latest read() that was not NONE");
        ChoiceGame x = new ChoiceGame();
        Check.read(x, ":a");
        Check.read(x, "some a a:1");
        CHECK.due("the latest of two", x.fault(0), 3);
        CHECK.due("its place", x.fault(1), 7);
        x.read(1);
        x.read(-1);
        CHECK.due("behind a read that was NONE", x.fault(0), 3);
        CHECK.due("its place", x.fault(1), 7);
        Check.read(x, ":1");
        x.read(1);
        CHECK.due("a fine one, then NONE", x.fault(0), 0);
        CHECK.due("its place", x.fault(1), -1);
        x.feed(0, 0, 0, 0, 0);
        x.write();
        x.play(0);
        x.undo();
        CHECK.due("other calls leave it", x.fault(0), 0);
    }
}
