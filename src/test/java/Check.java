/** What the tests share: texts as calls of feed, and the count of answers that are as due. */
final class Check {
    private int passed;
    private int failed;
    private String sentence = "";

    /** What is checked from here on shows whether these words of the document hold. */
    void sentence(String words) {
        sentence = "[" + words + "] ";
    }

    void due(String what, long got, long want) {
        if (got == want) {
            passed++;
        } else {
            failed++;
            System.out.println(sentence + what + " answered " + got + ", due is " + want);
        }
    }

    void due(String what, boolean got, boolean want) {
        due(what, got ? 1 : 0, want ? 1 : 0);
    }

    void due(String what, String got, String want) {
        if (!got.equals(want)) {
            System.out.println(sentence + what + " answered '" + got + "', due is '" + want + "'");
        }
        due(what + " (as a text)", got.equals(want), true);
    }

    /** The text has that fault at that place. */
    void faulty(String text, int fault, int place) {
        ChoiceGame x = new ChoiceGame();
        due("read of '" + text + "'", read(x, text), -2);
        due("fault of '" + text + "'", x.fault(0), fault);
        due("place in '" + text + "'", x.fault(1), place);
        due("others of '" + text + "'", x.fault(2), -1);
    }

    /** The text has no fault and that many blocks. */
    void fine(String text, int blocks) {
        ChoiceGame x = new ChoiceGame();
        due("read of '" + text + "'", read(x, text), blocks);
        due("fault of '" + text + "'", x.fault(0), 0);
        due("place in '" + text + "'", x.fault(1), -1);
    }

    boolean hasFailed() {
        return failed > 0;
    }

    void end() {
        System.out.println(passed + " passed, " + failed + " failed");
        if (failed > 0) {
            System.exit(1);
        }
    }

    /** Feeds the text with zero bytes behind it up to a multiple of twenty. */
    static int feed(ChoiceGame x, String text) {
        int answer = x.look(3);
        for (int i = 0; i < text.length(); i += 20) {
            answer = x.feed(word(text, i), word(text, i + 4), word(text, i + 8), word(text, i + 12), word(text, i + 16));
        }
        return answer;
    }

    static int read(ChoiceGame x, String text) {
        feed(x, text);
        return x.read(text.length());
    }

    static ChoiceGame of(String text) {
        ChoiceGame x = new ChoiceGame();
        if (read(x, text) < 0) {
            throw new IllegalStateException("not read: " + text);
        }
        return x;
    }

    static String written(ChoiceGame x) {
        int size = x.write();
        StringBuilder bytes = new StringBuilder();
        for (int i = 0; i < size; i++) {
            bytes.append((char) x.octet(i));
        }
        return bytes.toString();
    }

    static String times(String part, int n) {
        return part.repeat(n);
    }

    static int word(String text, int i) {
        int bits = 0;
        for (int j = i; j < i + 4; j++) {
            bits = bits << 8 | (j < text.length() ? text.charAt(j) & 255 : 0);
        }
        return bits;
    }
}
