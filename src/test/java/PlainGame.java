import java.util.ArrayList;
import java.util.List;

/**
 * The document once more, in the plainest way, for comparing answers: the grammar as functions that
 * call one another, a tree, and every choice tried one by one.
 */
final class PlainGame {
    static final class Fault extends RuntimeException {
        private static final long serialVersionUID = 1L;
        final int number;
        final int place;

        Fault(int number, int place) {
            super(null, null, false, false);
            this.number = number;
            this.place = place;
        }
    }

    /** A part of a formula: a sign with one or two parts, or a name or a constant with none. */
    record Tree(String sign, Tree left, Tree right) {
        int level() {
            return right == null ? 6 : "=>|^&".indexOf(sign) + 1;
        }

        boolean value(List<String> names, boolean[] values) {
            switch (sign) {
                case "0":
                case "1":
                    return sign.equals("1");
                case "!":
                    return !left.value(names, values);
                case "&":
                    return left.value(names, values) && right.value(names, values);
                case "|":
                    return left.value(names, values) || right.value(names, values);
                case "^":
                    return left.value(names, values) != right.value(names, values);
                case "=":
                    return left.value(names, values) == right.value(names, values);
                case ">":
                    return !left.value(names, values) || right.value(names, values);
                default:
                    return values[names.indexOf(sign)];
            }
        }

        String text() {
            if (left == null) {
                return sign;
            }
            if (right == null) {
                return "!" + left.textFrom(6);
            }
            boolean toTheRight = sign.equals(">");
            return left.textFrom(toTheRight ? level() + 1 : level()) + sign
                + right.textFrom(toTheRight ? level() : level() + 1);
        }

        private String textFrom(int least) {
            return level() < least ? "(" + text() + ")" : text();
        }
    }

    /** A text that was read. */
    static final class Parsed {
        final List<String> names = new ArrayList<>();
        final List<Integer> blockOf = new ArrayList<>();
        final List<String> owners = new ArrayList<>();
        Tree tree = new Tree("1", null, null);
    }

    private static final class Parser {
        final String text;
        final List<String> tokens = new ArrayList<>();
        final List<Integer> places = new ArrayList<>();
        final Parsed parsed = new Parsed();
        int at;

        Parser(String text) {
            this.text = text;
            int i = 0;
            while (i < text.length()) {
                int from = i;
                while (i < text.length() && String.valueOf(text.charAt(i)).matches("[A-Za-z0-9]")) {
                    i++;
                }
                if (i == from) {
                    i++;
                }
                String token = text.substring(from, i);
                if (!token.equals(" ") && !token.equals("\n")) {
                    tokens.add(token);
                    places.add(from);
                }
            }
        }

        String peek() {
            return at < tokens.size() ? tokens.get(at) : "";
        }

        Fault fault(int number) {
            return new Fault(number, at < tokens.size() ? places.get(at) : text.length());
        }

        boolean isName() {
            return peek().matches("[a-z][0-9]?");
        }

        void take() {
            if (at >= 160) {
                throw fault(4);
            }
            at++;
        }

        Parsed parse() {
            int words = 0;
            boolean more = !peek().equals(":");
            while (more) {
                words++;
                block(words);
                more = peek().equals(";");
                if (more) {
                    take();
                }
            }
            if (!peek().equals(":")) {
                throw fault(1);
            }
            take();
            parsed.tree = level(1, 0);
            if (at < tokens.size()) {
                throw fault(1);
            }
            return parsed;
        }

        private void block(int words) {
            String word = peek();
            if (!word.equals("some") && !word.equals("all")) {
                throw fault(1);
            }
            if (words > 6) {
                throw fault(4);
            }
            if (parsed.owners.isEmpty() || !parsed.owners.get(parsed.owners.size() - 1).equals(word)) {
                parsed.owners.add(word);
            }
            take();
            if (!isName()) {
                throw fault(1);
            }
            while (isName()) {
                if (parsed.names.contains(peek())) {
                    throw fault(3);
                }
                if (parsed.names.size() == 10) {
                    throw fault(4);
                }
                parsed.names.add(peek());
                parsed.blockOf.add(parsed.owners.size() - 1);
                take();
            }
        }

        private Tree level(int level, int open) {
            if (level == 6) {
                return highest(open);
            }
            String sign = "=>|^&".substring(level - 1, level);
            Tree tree = level(level + 1, open);
            if (level == 2 && peek().equals(sign)) {
                take();
                return new Tree(sign, tree, level(2, open));
            }
            while (level != 2 && peek().equals(sign)) {
                take();
                tree = new Tree(sign, tree, level(level + 1, open));
            }
            return tree;
        }

        private Tree highest(int open) {
            String sign = peek();
            if (sign.equals("!") || sign.equals("(")) {
                if (open == 20) {
                    throw fault(1);
                }
                take();
                if (sign.equals("!")) {
                    return new Tree("!", highest(open + 1), null);
                }
                Tree inner = level(1, open + 1);
                if (!peek().equals(")")) {
                    throw fault(1);
                }
                take();
                return inner;
            }
            if (!isName() && !sign.equals("0") && !sign.equals("1")) {
                throw fault(1);
            }
            if (isName() && !parsed.names.contains(sign)) {
                throw fault(2);
            }
            take();
            return new Tree(sign, null, null);
        }
    }

    private final StringBuilder tape = new StringBuilder();
    private final List<Integer> played = new ArrayList<>();
    private Parsed parsed = new Parsed();
    private int faultNumber = 0;
    private int faultPlace = -1;
    private String written = "";

    static Parsed parse(String text) {
        return new Parser(text).parse();
    }

    int feed(int... words) {
        if (tape.length() + 20 > 600) {
            return -1;
        }
        for (int word : words) {
            for (int shift = 24; shift >= 0; shift -= 8) {
                tape.append((char) (word >> shift & 255));
            }
        }
        return tape.length();
    }

    int read(int n) {
        if (n < 0 || n > tape.length()) {
            return -1;
        }
        String text = tape.substring(0, n);
        tape.setLength(0);
        faultNumber = 0;
        faultPlace = -1;
        try {
            parsed = parse(text);
            played.clear();
            return parsed.owners.size();
        } catch (Fault fault) {
            faultNumber = fault.number;
            faultPlace = fault.place;
            return -2;
        }
    }

    int fault(int what) {
        return what == 0 ? faultNumber : what == 1 ? faultPlace : -1;
    }

    private int sizeOf(int block) {
        int size = 0;
        for (int b : parsed.blockOf) {
            size += b == block ? 1 : 0;
        }
        return size;
    }

    private int firstOf(int block) {
        int first = 0;
        while (first < parsed.blockOf.size() && parsed.blockOf.get(first) < block) {
            first++;
        }
        return first;
    }

    private boolean[] playedValues() {
        boolean[] values = new boolean[parsed.names.size()];
        for (int b = 0; b < played.size(); b++) {
            set(values, b, played.get(b));
        }
        return values;
    }

    private void set(boolean[] values, int block, int move) {
        int size = sizeOf(block);
        for (int i = 0; i < size; i++) {
            values[firstOf(block) + i] = (move >> (size - 1 - i) & 1) == 1;
        }
    }

    /** Whether some wins from name k on; the fixed name keeps its value, the turned block is the other's. */
    private boolean someWins(boolean[] values, int k, int fixedName, int turnedBlock) {
        if (k == values.length) {
            return parsed.tree.value(parsed.names, values);
        }
        if (k == fixedName) {
            return someWins(values, k + 1, fixedName, turnedBlock);
        }
        boolean some = parsed.owners.get(parsed.blockOf.get(k)).equals("some") != (parsed.blockOf.get(k) == turnedBlock);
        values[k] = false;
        boolean zero = someWins(values, k + 1, fixedName, turnedBlock);
        if (zero == some) {
            return zero;
        }
        values[k] = true;
        return someWins(values, k + 1, fixedName, turnedBlock);
    }

    int truth() {
        return someWins(playedValues(), firstOf(played.size()), -1, -1) ? 1 : 0;
    }

    int turn() {
        return played.size() == parsed.owners.size() ? -1 : parsed.owners.get(played.size()).equals("some") ? 0 : 1;
    }

    int wins(int m) {
        if (turn() == -1 || m < 0 || m >= 1 << sizeOf(played.size())) {
            return -1;
        }
        boolean[] values = playedValues();
        set(values, played.size(), m);
        return someWins(values, firstOf(played.size() + 1), -1, -1) == (turn() == 0) ? 1 : 0;
    }

    int move() {
        for (int m = 0; wins(m) != -1; m++) {
            if (wins(m) == 1) {
                return m;
            }
        }
        return -1;
    }

    int moves() {
        int count = 0;
        for (int m = 0; wins(m) != -1; m++) {
            count += wins(m);
        }
        return turn() == -1 ? -1 : count;
    }

    boolean play(int m) {
        boolean may = wins(m) != -1;
        if (may) {
            played.add(m);
        }
        return may;
    }

    int undo() {
        return played.isEmpty() ? -1 : played.remove(played.size() - 1);
    }

    int fixed(int k, int value) {
        if (k < 0 || k >= parsed.names.size() || value < 0 || value > 1) {
            return -1;
        }
        boolean[] values = playedValues();
        values[k] = value == 1;
        return someWins(values, firstOf(played.size()), k, -1) ? 1 : 0;
    }

    int turned(int b) {
        if (b < played.size() || b >= parsed.owners.size()) {
            return -1;
        }
        return someWins(playedValues(), firstOf(played.size()), -1, b) ? 1 : 0;
    }

    int models() {
        return countModels(playedValues(), firstOf(played.size()));
    }

    private int countModels(boolean[] values, int k) {
        if (k == values.length) {
            return parsed.tree.value(parsed.names, values) ? 1 : 0;
        }
        values[k] = false;
        int count = countModels(values, k + 1);
        values[k] = true;
        return count + countModels(values, k + 1);
    }

    int write() {
        written = parsed.tree.text();
        return written.length();
    }

    int octet(int i) {
        return i < 0 || i >= written.length() ? -1 : written.charAt(i);
    }

    int look(int what) {
        if (what >= 0 && what <= 3) {
            return new int[] {parsed.names.size(), parsed.owners.size(), played.size(), tape.length()}[what];
        }
        if (what >= 10 && what < 10 + parsed.owners.size()) {
            return sizeOf(what - 10);
        }
        int k = what < 0 ? -1 : what % 20;
        if (k < 0 || k >= parsed.names.size()) {
            return -1;
        }
        switch (what / 20) {
            case 1:
                String name = parsed.names.get(k);
                return name.charAt(0) + (name.length() == 1 ? 0 : 256 * (name.charAt(1) - '0' + 1));
            case 2:
                return parsed.blockOf.get(k);
            case 3:
                return k < firstOf(played.size()) ? (playedValues()[k] ? 1 : 0) : -1;
            default:
                return -1;
        }
    }
}
