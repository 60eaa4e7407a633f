import java.util.Random;

/** All promises: runs of calls made up by a fixed seed, compared with PlainGame answer by answer. */
public final class PlainGameTest {
    private static final Check CHECK = new Check();
    private static final Random RANDOM = new Random(20261116L);
    private static final String[] TOKENS = {"some", "all", "(", ")", "!", "&", "|", "^", ">", "=", ";", ":", "0", "1",
        "a", "b", "c3", "z", "?", "ab", "A", "10", "\t", "\0", "\377"};
    private static final int RUNS = 700;
    // An object is used for at most 512 calls; a text takes 33 of them at the most.
    private static final int CALLS = 512 - 33;

    private final ChoiceGame game = new ChoiceGame();
    private final PlainGame plain = new PlainGame();
    private String latest = "";
    private int used;

    public static void main(String[] args) {
        for (int run = 0; run < RUNS && !CHECK.hasFailed(); run++) {
            new PlainGameTest().run();
        }
        for (int i = 0; i < 3000 && !CHECK.hasFailed(); i++) {
            writtenIsLeast(text(1 + RANDOM.nextInt(10), 4));
        }
        CHECK.end();
    }

    private void run() {
        while (used < CALLS && !CHECK.hasFailed()) {
            readSomeText();
            for (int calls = RANDOM.nextInt(60); calls > 0 && used < CALLS && !CHECK.hasFailed(); calls--) {
                call();
            }
        }
    }

    private void due(String call, long got, long want) {
        used++;
        CHECK.due("behind '" + latest + "' " + call, got, want);
    }

    private void readSomeText() {
        latest = text(RANDOM.nextInt(11), RANDOM.nextInt(7));
        if (RANDOM.nextInt(3) == 0) {
            latest = spoilt(latest);
        }
        if (latest.length() > 600) {
            latest = latest.substring(0, 600);
        }
        emptyTheTape();
        for (int i = 0; i < latest.length(); i += 20) {
            feed(i);
        }
        int n = RANDOM.nextInt(20) == 0 ? RANDOM.nextInt(latest.length() + 1) : latest.length();
        due("read(" + n + ")", game.read(n), plain.read(n));
        due("fault(0)", game.fault(0), plain.fault(0));
        due("fault(1)", game.fault(1), plain.fault(1));
    }

    /** A read of a tape that an earlier call has fed would see its bytes; now and then it shall. */
    private void emptyTheTape() {
        if (RANDOM.nextInt(10) != 0) {
            due("read(0)", game.read(0), plain.read(0));
        }
    }

    private void feed(int i) {
        int a = Check.word(latest, i);
        int b = Check.word(latest, i + 4);
        int c = Check.word(latest, i + 8);
        int d = Check.word(latest, i + 12);
        int e = Check.word(latest, i + 16);
        due("feed", game.feed(a, b, c, d, e), plain.feed(a, b, c, d, e));
    }

    private void call() {
        int m = RANDOM.nextInt(20) == 0 ? RANDOM.nextInt() : RANDOM.nextInt(2 + (1 << RANDOM.nextInt(5))) - 1;
        switch (RANDOM.nextInt(18)) {
            case 0 -> due("truth()", game.truth(), plain.truth());
            case 1 -> due("turn()", game.turn(), plain.turn());
            case 2 -> due("move()", game.move(), plain.move());
            case 3 -> due("wins(" + m + ")", game.wins(m), plain.wins(m));
            case 4 -> due("moves()", game.moves(), plain.moves());
            case 5, 6, 7 -> due("play(" + m + ")", game.play(m) ? 1 : 0, plain.play(m) ? 1 : 0);
            case 8 -> due("undo()", game.undo(), plain.undo());
            case 9, 10 -> fixed(m);
            case 11 -> due("turned(" + m + ")", game.turned(m), plain.turned(m));
            case 12 -> due("models()", game.models(), plain.models());
            case 13 -> due("write()", game.write(), plain.write());
            case 14 -> due("octet(" + m + ")", game.octet(m), plain.octet(m));
            case 15 -> due("fault(" + m + ")", game.fault(m), plain.fault(m));
            case 16 -> refusedOrSmallRead(m);
            default -> look();
        }
    }

    private void fixed(int k) {
        int value = RANDOM.nextInt(12) == 0 ? RANDOM.nextInt(5) - 2 : RANDOM.nextInt(2);
        due("fixed(" + k + ", " + value + ")", game.fixed(k, value), plain.fixed(k, value));
    }

    private void refusedOrSmallRead(int n) {
        if (RANDOM.nextInt(3) == 0) {
            due("feed", game.feed(n, 0, 1, 2, 3), plain.feed(n, 0, 1, 2, 3));
        } else {
            due("read(" + n + ")", game.read(n), plain.read(n));
        }
    }

    private void look() {
        int what = RANDOM.nextInt(90) - 5;
        due("look(" + what + ")", game.look(what), plain.look(what));
    }

    private static String blank() {
        return RANDOM.nextInt(5) == 0 ? RANDOM.nextBoolean() ? " " : "\n" : "";
    }

    /** A text with that many names, mostly without a fault. */
    private static String text(int names, int depth) {
        StringBuilder text = new StringBuilder(blank());
        String[] of = new String[names];
        int words = 0;
        for (int k = 0; k < names; k++) {
            of[k] = (char) ('a' + (RANDOM.nextInt(40) == 0 ? 0 : k)) + (RANDOM.nextInt(3) == 0 ? "" + RANDOM.nextInt(10) : "");
            if (k == 0 || words < 6 && RANDOM.nextInt(2) == 0) {
                text.append(k == 0 ? "" : ";").append(blank()).append(RANDOM.nextBoolean() ? "some" : "all");
                words++;
            }
            text.append(RANDOM.nextBoolean() ? " " : "\n").append(of[k]).append(blank());
        }
        return text.append(":").append(formula(of, depth)).append(blank()).toString();
    }

    private static String formula(String[] names, int depth) {
        int kind = RANDOM.nextInt(12);
        String inner;
        if (depth == 0 || kind == 0) {
            inner = names.length == 0 || RANDOM.nextInt(10) == 0 ? "" + RANDOM.nextInt(2) : names[RANDOM.nextInt(names.length)];
        } else if (kind == 1) {
            inner = "!" + blank() + "(" + formula(names, depth - 1) + ")";
        } else if (kind == 2) {
            inner = "(" + formula(names, depth - 1) + ")";
        } else {
            inner = part(names, depth - 1) + blank() + "=>|^&".charAt(RANDOM.nextInt(5)) + blank() + part(names, depth - 1);
        }
        return blank() + inner + blank();
    }

    private static String part(String[] names, int depth) {
        String inner = formula(names, RANDOM.nextInt(4) == 0 ? Math.max(0, depth - 1) : depth);
        return RANDOM.nextInt(3) == 0 ? "(" + inner + ")" : RANDOM.nextInt(6) == 0 ? "!" + inner : inner;
    }

    private static String spoilt(String text) {
        StringBuilder other = new StringBuilder(text);
        for (int times = 1 + RANDOM.nextInt(2); times > 0; times--) {
            int at = RANDOM.nextInt(other.length() + 1);
            switch (RANDOM.nextInt(4)) {
                case 0 -> other.insert(at, TOKENS[RANDOM.nextInt(TOKENS.length)]);
                case 1 -> other.insert(at, " " + TOKENS[RANDOM.nextInt(TOKENS.length)] + " ");
                case 2 -> other.delete(at, Math.min(other.length(), at + 1 + RANDOM.nextInt(3)));
                default -> other.insert(at, RANDOM.nextBoolean() ? "(".repeat(RANDOM.nextInt(24)) : "!".repeat(RANDOM.nextInt(24)));
            }
        }
        return other.toString();
    }

    /** What is written reads as the same tree, and without any one pair of ( ) it does not. */
    private static void writtenIsLeast(String text) {
        PlainGame.Parsed parsed;
        try {
            parsed = PlainGame.parse(text);
        } catch (PlainGame.Fault fault) {
            return;
        }
        String blocks = text.substring(0, text.indexOf(':') + 1);
        String written = Check.written(Check.of(text));
        CHECK.due("written of '" + text + "' is read as the same", PlainGame.parse(blocks + written).tree.equals(parsed.tree), true);
        for (int i = 0; i < written.length(); i++) {
            if (written.charAt(i) == '(') {
                String less = withoutPair(written, i);
                CHECK.due("'" + written + "' needs its ( ) at " + i, readsAs(blocks + less, parsed.tree), false);
            }
        }
    }

    private static boolean readsAs(String text, PlainGame.Tree tree) {
        try {
            return PlainGame.parse(text).tree.equals(tree);
        } catch (PlainGame.Fault fault) {
            return false;
        }
    }

    private static String withoutPair(String text, int from) {
        int open = 0;
        int to = from;
        do {
            open += text.charAt(to) == '(' ? 1 : text.charAt(to) == ')' ? -1 : 0;
            to++;
        } while (open > 0);
        return text.substring(0, from) + text.substring(from + 1, to - 1) + text.substring(to);
    }
}
