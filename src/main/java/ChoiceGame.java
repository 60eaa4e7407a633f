/**
 * A solver of games of two who choose truth in turn. A text gives blocks of names, each block chosen
 * by SOME or by ALL, and a formula: SOME wants it to be 1, ALL wants it to be 0.
 *
 * <p>All arrays are made in constructors and used again: no call makes an object.
 */
public final class ChoiceGame {
    public static final int NONE = -1;

    private static final int MOST_BYTES = 600;
    private static final int MOST_TOKENS = 160;
    private static final int MOST_NAMES = 10;
    private static final int MOST_WORDS = 6;
    private static final int MOST_OPEN = 20;
    private static final int BYTES_A_FEED = 20;

    private static final int FINE = 0;
    private static final int FORM = 1;
    private static final int UNKNOWN = 2;
    private static final int TWICE = 3;
    private static final int TOO_MUCH = 4;
    private static final int FAULTY = -2;

    // Kinds of tokens beside the signs, which are their own bytes. In a formula NAME + k is the name k.
    private static final int NAME = 256;
    private static final int WORD_SOME = 512;
    private static final int WORD_ALL = 513;
    private static final int END = 514;
    private static final int NO_TOKEN = 515;

    // Who chooses a name's value; FIXED + v stands for nobody, as the value is v.
    private static final int SOME = 0;
    private static final int ALL = 1;
    private static final int FIXED = 2;

    private static final int GREATER_LEVEL = 2;
    private static final int NOT_LEVEL = 6;

    // A truth table is kept as bits, 64 a word.
    private static final int WORD_BITS = 64;
    private static final int WORD_SHIFT = 6;
    private static final int MOST_TABLE_WORDS = 16;

    private final Tape tape;
    private final Reader reader;
    private final History history;
    private final Solver solver;
    private final Page page;
    private Game game;
    private int latestFault;
    private int latestPlace;

    public ChoiceGame() {
        tape = new Tape();
        reader = new Reader(tape);
        history = new History();
        solver = new Solver();
        page = new Page();
        game = new Game();
        latestFault = FINE;
        latestPlace = NONE;
    }

    public int feed(int a, int b, int c, int d, int e) {
        if (tape.size > MOST_BYTES - BYTES_A_FEED) {
            return NONE;
        }
        tape.addBytesOf(a);
        tape.addBytesOf(b);
        tape.addBytesOf(c);
        tape.addBytesOf(d);
        tape.addBytesOf(e);
        return tape.size;
    }

    public int read(int n) {
        if (n < 0 || n > tape.size) {
            return NONE;
        }
        latestFault = reader.readText(n);
        latestPlace = latestFault == FINE ? NONE : reader.place();
        tape.size = 0;
        if (latestFault != FINE) {
            return FAULTY;
        }
        game = reader.exchange(game);
        game.table.fill(game.formula, game.blocks.names);
        history.clear();
        return game.blocks.count;
    }

    public int fault(int what) {
        if (what == 0) {
            return latestFault;
        }
        return what == 1 ? latestPlace : NONE;
    }

    public int truth() {
        solver.letOwnersChoose(game.blocks);
        return someWinsWith(history.values);
    }

    public int turn() {
        return game.blocks.ownerOf(history.blocks);
    }

    public int move() {
        if (allPlayed()) {
            return NONE;
        }
        int count = countOfMoves();
        int wished = wishedValue();
        foldToMoves();
        for (int m = 0; m < count; m++) {
            if (solver.outcome(m) == wished) {
                return m;
            }
        }
        return NONE;
    }

    public int wins(int m) {
        if (!isMove(m)) {
            return NONE;
        }
        int size = game.blocks.sizeOf(history.blocks);
        int behind = history.names + size;
        solver.letOwnersChoose(game.blocks);
        solver.fold(game.table, history.values << size | m, behind, behind);
        return solver.outcome(0) == wishedValue() ? 1 : 0;
    }

    public int moves() {
        if (allPlayed()) {
            return NONE;
        }
        int count = countOfMoves();
        int wished = wishedValue();
        int winning = 0;
        foldToMoves();
        for (int m = 0; m < count; m++) {
            if (solver.outcome(m) == wished) {
                winning++;
            }
        }
        return winning;
    }

    public boolean play(int m) {
        if (!isMove(m)) {
            return false;
        }
        history.add(m, game.blocks.sizeOf(history.blocks));
        return true;
    }

    public int undo() {
        if (history.blocks == 0) {
            return NONE;
        }
        return history.takeBack(game.blocks.sizeOf(history.blocks - 1));
    }

    public int fixed(int k, int value) {
        if (!within(k, game.blocks.names) || !within(value, 2)) {
            return NONE;
        }
        solver.letOwnersChoose(game.blocks);
        if (k < history.names) {
            return someWinsWith(history.valuesWith(k, value));
        }
        solver.fix(k, value);
        return someWinsWith(history.values);
    }

    public int turned(int b) {
        if (!within(b, game.blocks.count) || b < history.blocks) {
            return NONE;
        }
        solver.letOwnersChoose(game.blocks);
        solver.turnBlock(game.blocks, b);
        return someWinsWith(history.values);
    }

    public int models() {
        solver.letOwnersChoose(game.blocks);
        return solver.countOnes(game.table, history.values, history.names);
    }

    public int write() {
        page.size = 0;
        for (int i = 0; i < game.formula.length; i++) {
            page.addTimes('(', game.formula.opensAt(i));
            page.addSymbol(game.formula.symbolAt(i), game.blocks);
            page.addTimes(')', game.formula.closesAt(i));
        }
        return page.size;
    }

    public int octet(int i) {
        return page.byteAt(i);
    }

    public int look(int what) {
        switch (what) {
            case 0:
                return game.blocks.names;
            case 1:
                return game.blocks.count;
            case 2:
                return history.blocks;
            case 3:
                return tape.size;
            default:
                return lookInBlocks(what);
        }
    }

    private int lookInBlocks(int what) {
        if (within(what - 10, MOST_WORDS)) {
            return game.blocks.sizeOf(what - 10);
        }
        if (within(what - 20, MOST_NAMES)) {
            return game.blocks.codeOf(what - 20);
        }
        if (within(what - 40, MOST_NAMES)) {
            return game.blocks.blockOf(what - 40);
        }
        return within(what - 60, MOST_NAMES) ? history.valueOf(what - 60) : NONE;
    }

    private int someWinsWith(int values) {
        solver.fold(game.table, values, history.names, history.names);
        return solver.outcome(0);
    }

    /** Leaves the solver with an outcome for each move of the next block. */
    private void foldToMoves() {
        int behind = history.names + game.blocks.sizeOf(history.blocks);
        solver.letOwnersChoose(game.blocks);
        solver.fold(game.table, history.values, history.names, behind);
    }

    private boolean allPlayed() {
        return history.blocks >= game.blocks.count;
    }

    private int countOfMoves() {
        return allPlayed() ? 0 : 1 << game.blocks.sizeOf(history.blocks);
    }

    private boolean isMove(int m) {
        return within(m, countOfMoves());
    }

    private int wishedValue() {
        return game.blocks.ownerOf(history.blocks) == SOME ? 1 : 0;
    }

    private static boolean within(int i, int count) {
        return i >= 0 && i < count;
    }

    /** The level of an operator; 0 for everything else, so that a ( stops whatever looks for a level. */
    private static int levelOf(int sign) {
        switch (sign) {
            case '=':
                return 1;
            case '>':
                return GREATER_LEVEL;
            case '|':
                return 3;
            case '^':
                return 4;
            case '&':
                return 5;
            case '!':
                return NOT_LEVEL;
            default:
                return 0;
        }
    }

    private static int tableWords(int names) {
        return names > WORD_SHIFT ? 1 << (names - WORD_SHIFT) : 1;
    }

    /** The bytes that were fed and not read yet. */
    private static final class Tape {
        private final int[] bytes = new int[MOST_BYTES];
        private int size;

        void addBytesOf(int fourBytes) {
            for (int shift = 24; shift >= 0; shift -= 8) {
                if (within(size, MOST_BYTES)) {
                    bytes[size] = fourBytes >>> shift & 255;
                    size++;
                }
            }
        }

        int byteAt(int i) {
            return within(i, MOST_BYTES) ? bytes[i] : NONE;
        }
    }

    /** Cuts the first bytes of the tape into tokens. */
    private static final class Scanner {
        private final Tape tape;
        private int end;
        private int next;
        private int start;
        private int kind;
        private int code;

        Scanner(Tape tape) {
            this.tape = tape;
        }

        void begin(int length) {
            end = length;
            next = 0;
        }

        void advance() {
            while (next < end && isBlank(tape.byteAt(next))) {
                next++;
            }
            start = next;
            while (next < end && isLetterOrDigit(tape.byteAt(next))) {
                next++;
            }
            if (next > start) {
                kind = kindOfRun(next - start);
            } else if (next < end) {
                kind = kindOfSign(tape.byteAt(next));
                next++;
            } else {
                kind = END;
            }
        }

        private int kindOfRun(int length) {
            int first = tape.byteAt(start);
            int second = tape.byteAt(start + 1);
            if (length == 1 && (first == '0' || first == '1')) {
                return first;
            }
            if (isSmallLetter(first) && (length == 1 || length == 2 && isDigit(second))) {
                code = length == 1 ? first : first + 256 * (second - '0' + 1);
                return NAME;
            }
            if (spells("some", length)) {
                return WORD_SOME;
            }
            return spells("all", length) ? WORD_ALL : NO_TOKEN;
        }

        private boolean spells(String word, int length) {
            if (length != word.length()) {
                return false;
            }
            for (int i = 0; i < word.length(); i++) {
                if (tape.byteAt(start + i) != word.charAt(i)) {
                    return false;
                }
            }
            return true;
        }

        private static int kindOfSign(int sign) {
            boolean known = levelOf(sign) > 0 || sign == '(' || sign == ')' || sign == ';' || sign == ':';
            return known ? sign : NO_TOKEN;
        }

        private static boolean isBlank(int c) {
            return c == ' ' || c == '\n';
        }

        private static boolean isSmallLetter(int c) {
            return c >= 'a' && c <= 'z';
        }

        private static boolean isDigit(int c) {
            return c >= '0' && c <= '9';
        }

        private static boolean isLetterOrDigit(int c) {
            return isSmallLetter(c) || c >= 'A' && c <= 'Z' || isDigit(c);
        }
    }

    /** The blocks with their owners, and the names in them. */
    private static final class Blocks {
        private final int[] owners = new int[MOST_WORDS];
        private final int[] sizes = new int[MOST_WORDS];
        private final int[] nameCodes = new int[MOST_NAMES];
        private final int[] nameBlocks = new int[MOST_NAMES];
        private int words;
        private int count;
        private int names;

        void clear() {
            words = 0;
            count = 0;
            names = 0;
        }

        int addWord(int owner) {
            if (words >= MOST_WORDS) {
                return TOO_MUCH;
            }
            words++;
            // The same word again goes on with its block; ownerOf() is NONE ahead of the first.
            if (ownerOf(count - 1) != owner && within(count, MOST_WORDS)) {
                owners[count] = owner;
                sizes[count] = 0;
                count++;
            }
            return FINE;
        }

        int addName(int code) {
            if (find(code) != NONE) {
                return TWICE;
            }
            int block = count - 1;
            if (!within(names, MOST_NAMES) || !within(block, MOST_WORDS)) {
                return TOO_MUCH;
            }
            nameCodes[names] = code;
            nameBlocks[names] = block;
            names++;
            sizes[block]++;
            return FINE;
        }

        int find(int code) {
            for (int k = 0; k < names; k++) {
                if (codeOf(k) == code) {
                    return k;
                }
            }
            return NONE;
        }

        int ownerOf(int b) {
            return within(b, count) && b < MOST_WORDS ? owners[b] : NONE;
        }

        int sizeOf(int b) {
            return within(b, count) && b < MOST_WORDS ? sizes[b] : NONE;
        }

        int codeOf(int k) {
            return within(k, names) && k < MOST_NAMES ? nameCodes[k] : NONE;
        }

        int blockOf(int k) {
            return within(k, names) && k < MOST_NAMES ? nameBlocks[k] : NONE;
        }
    }

    /**
     * A formula, kept twice: as its symbols in the order of the text, with the ( ) that must stand
     * around them, for writing; and as steps, each operator behind its operands, for reckoning.
     */
    private static final class Formula {
        private final int[] symbols = new int[MOST_TOKENS];
        private final int[] opens = new int[MOST_TOKENS];
        private final int[] closes = new int[MOST_TOKENS];
        private final int[] steps = new int[MOST_TOKENS];
        private int length;
        private int stepCount;

        void clear() {
            length = 0;
            stepCount = 0;
        }

        /** Answers the symbol's place. */
        int addSymbol(int symbol) {
            if (!within(length, MOST_TOKENS)) {
                return NONE;
            }
            symbols[length] = symbol;
            opens[length] = 0;
            closes[length] = 0;
            length++;
            return length - 1;
        }

        void addStep(int symbol) {
            if (within(stepCount, MOST_TOKENS)) {
                steps[stepCount] = symbol;
                stepCount++;
            }
        }

        void wrap(int first, int last) {
            if (first >= 0 && first < MOST_TOKENS && last >= 0 && last < MOST_TOKENS) {
                opens[first]++;
                closes[last]++;
            }
        }

        int symbolAt(int i) {
            return within(i, MOST_TOKENS) ? symbols[i] : NONE;
        }

        int opensAt(int i) {
            return within(i, MOST_TOKENS) ? opens[i] : 0;
        }

        int closesAt(int i) {
            return within(i, MOST_TOKENS) ? closes[i] : 0;
        }

        int stepAt(int i) {
            return within(i, MOST_TOKENS) ? steps[i] : NONE;
        }
    }

    /** Builds a formula from tokens that may stand where they stand, by two stacks. */
    private static final class Builder {
        private final int[] operators = new int[MOST_TOKENS];
        private final int[] operatorPlaces = new int[MOST_TOKENS];
        private final int[] firsts = new int[MOST_TOKENS];
        private final int[] lasts = new int[MOST_TOKENS];
        private final int[] levels = new int[MOST_TOKENS];
        private Formula formula;
        private int waiting;
        private int operands;
        private int openSigns;
        private int openParens;

        Builder(Formula formula) {
            this.formula = formula;
        }

        void begin(Formula emptied) {
            formula = emptied;
            waiting = 0;
            operands = 0;
            openSigns = 0;
            openParens = 0;
        }

        boolean openSign(int sign) {
            if (openSigns >= MOST_OPEN) {
                return false;
            }
            openSigns++;
            if (sign == '(') {
                openParens++;
                pushOperator(sign, NONE);
            } else {
                pushOperator(sign, formula.addSymbol(sign));
            }
            return true;
        }

        void addOperand(int symbol) {
            int place = formula.addSymbol(symbol);
            formula.addStep(symbol);
            if (within(operands, MOST_TOKENS)) {
                firsts[operands] = place;
                lasts[operands] = place;
                levels[operands] = NOT_LEVEL;
                operands++;
            }
            applyDownTo(NOT_LEVEL);
        }

        void addOperator(int sign) {
            // > is put to the right, so an earlier > waits for this one.
            applyDownTo(sign == '>' ? GREATER_LEVEL + 1 : levelOf(sign));
            pushOperator(sign, formula.addSymbol(sign));
        }

        boolean closeParen() {
            if (openParens == 0) {
                return false;
            }
            applyDownTo(1);
            waiting--;
            openParens--;
            openSigns--;
            applyDownTo(NOT_LEVEL);
            return true;
        }

        boolean finish() {
            if (openParens != 0) {
                return false;
            }
            applyDownTo(1);
            return true;
        }

        private void pushOperator(int sign, int place) {
            if (within(waiting, MOST_TOKENS)) {
                operators[waiting] = sign;
                operatorPlaces[waiting] = place;
                waiting++;
            }
        }

        private void applyDownTo(int level) {
            for (int top = waiting - 1; within(top, MOST_TOKENS); top--) {
                int sign = operators[top];
                if (levelOf(sign) < level) {
                    return;
                }
                waiting = top;
                formula.addStep(sign);
                if (sign == '!') {
                    turnOperand(operatorPlaces[top]);
                } else {
                    joinOperands(sign);
                }
            }
        }

        private void turnOperand(int place) {
            int top = operands - 1;
            openSigns--;
            wrapBelow(top, NOT_LEVEL);
            if (within(top, MOST_TOKENS)) {
                firsts[top] = place;
                levels[top] = NOT_LEVEL;
            }
        }

        private void joinOperands(int sign) {
            int level = levelOf(sign);
            int right = operands - 1;
            int left = right - 1;
            wrapBelow(left, sign == '>' ? level + 1 : level);
            wrapBelow(right, sign == '>' ? level : level + 1);
            if (within(left, MOST_TOKENS) && within(right, MOST_TOKENS)) {
                lasts[left] = lasts[right];
                levels[left] = level;
                operands = right;
            }
        }

        private void wrapBelow(int operand, int level) {
            if (within(operand, MOST_TOKENS) && levels[operand] < level) {
                formula.wrap(firsts[operand], lasts[operand]);
            }
        }
    }

    /** Reads a text into a draft, token by token, and finds its first fault. */
    private static final class Reader {
        // What may come next.
        private static final int FIRST_BLOCK = 0;
        private static final int NEXT_BLOCK = 1;
        private static final int FIRST_NAME = 2;
        private static final int MORE_NAMES = 3;
        private static final int OPERAND = 4;
        private static final int OPERATOR = 5;

        private final Scanner scanner;
        private final Builder builder;
        private Game draft;
        private int state;

        Reader(Tape tape) {
            scanner = new Scanner(tape);
            draft = new Game();
            builder = new Builder(draft.formula);
        }

        /** Answers the fault. */
        int readText(int length) {
            scanner.begin(length);
            draft.blocks.clear();
            draft.formula.clear();
            builder.begin(draft.formula);
            state = FIRST_BLOCK;
            for (int read = 0; read <= MOST_TOKENS; read++) {
                scanner.advance();
                int fault = state == OPERAND ? takeOperand() : state == OPERATOR ? takeOperator() : takeInBlocks();
                if (fault != FINE || scanner.kind == END) {
                    return fault;
                }
            }
            // One token more than may be was fine but for that.
            return TOO_MUCH;
        }

        int place() {
            return scanner.start;
        }

        /** Hands out the draft, and takes a game that nobody needs for the next one. */
        Game exchange(Game used) {
            Game full = draft;
            draft = used;
            return full;
        }

        private int takeInBlocks() {
            int kind = scanner.kind;
            if ((kind == WORD_SOME || kind == WORD_ALL) && (state == FIRST_BLOCK || state == NEXT_BLOCK)) {
                state = FIRST_NAME;
                return draft.blocks.addWord(kind == WORD_SOME ? SOME : ALL);
            }
            if (kind == NAME && (state == FIRST_NAME || state == MORE_NAMES)) {
                state = MORE_NAMES;
                return draft.blocks.addName(scanner.code);
            }
            if (kind == ';' && state == MORE_NAMES) {
                state = NEXT_BLOCK;
                return FINE;
            }
            if (kind == ':' && (state == FIRST_BLOCK || state == MORE_NAMES)) {
                state = OPERAND;
                return FINE;
            }
            return FORM;
        }

        private int takeOperand() {
            int kind = scanner.kind;
            if (kind == '!' || kind == '(') {
                return builder.openSign(kind) ? FINE : FORM;
            }
            if (kind != NAME && kind != '0' && kind != '1') {
                return FORM;
            }
            int k = kind == NAME ? draft.blocks.find(scanner.code) : 0;
            if (k == NONE) {
                return UNKNOWN;
            }
            builder.addOperand(kind + k);
            state = OPERATOR;
            return FINE;
        }

        private int takeOperator() {
            int kind = scanner.kind;
            if (kind == END) {
                return builder.finish() ? FINE : FORM;
            }
            if (kind == ')') {
                return builder.closeParen() ? FINE : FORM;
            }
            if (levelOf(kind) == 0 || kind == '!') {
                return FORM;
            }
            builder.addOperator(kind);
            state = OPERAND;
            return FINE;
        }
    }

    /**
     * The formula's value for all ways to choose. A way is a number, the first name's value its
     * highest bit, and its value is that bit of the table.
     */
    private static final class Table {
        // Bit i of pattern p is bit p of i: a name's values within a word.
        private static final long[] PATTERNS = {
            0xAAAAAAAAAAAAAAAAL, 0xCCCCCCCCCCCCCCCCL, 0xF0F0F0F0F0F0F0F0L,
            0xFF00FF00FF00FF00L, 0xFFFF0000FFFF0000L, 0xFFFFFFFF00000000L
        };

        private final long[] words = new long[MOST_TABLE_WORDS];
        private final long[] stack = new long[MOST_TOKENS];
        private int depth;

        void fill(Formula formula, int names) {
            int used = tableWords(names);
            for (int w = 0; w < used && w < MOST_TABLE_WORDS; w++) {
                words[w] = reckon(formula, names, w);
            }
        }

        long wordAt(int w) {
            return within(w, MOST_TABLE_WORDS) ? words[w] : 0L;
        }

        private long reckon(Formula formula, int names, int w) {
            depth = 0;
            for (int i = 0; i < formula.stepCount; i++) {
                int step = formula.stepAt(i);
                if (step >= NAME) {
                    push(valuesOfName(names - 1 - (step - NAME), w));
                } else if (step == '0' || step == '1') {
                    push(step == '1' ? -1L : 0L);
                } else if (step == '!') {
                    push(~pop());
                } else {
                    long right = pop();
                    push(combine(step, pop(), right));
                }
            }
            return pop();
        }

        private static long valuesOfName(int bit, int w) {
            if (bit >= WORD_SHIFT) {
                return (w >> (bit - WORD_SHIFT) & 1) == 1 ? -1L : 0L;
            }
            return bit >= 0 ? PATTERNS[bit] : 0L;
        }

        private static long combine(int sign, long left, long right) {
            switch (sign) {
                case '&':
                    return left & right;
                case '|':
                    return left | right;
                case '^':
                    return left ^ right;
                case '>':
                    return ~left | right;
                default:
                    return ~(left ^ right);
            }
        }

        private void push(long values) {
            if (within(depth, MOST_TOKENS)) {
                stack[depth] = values;
                depth++;
            }
        }

        private long pop() {
            if (!within(depth - 1, MOST_TOKENS)) {
                return 0L;
            }
            depth--;
            return stack[depth];
        }
    }

    /** A text that was read: its blocks and its formula. */
    private static final class Game {
        private final Blocks blocks = new Blocks();
        private final Formula formula = new Formula();
        private final Table table = new Table();

        /** Without a text the formula is 1. */
        Game() {
            formula.addSymbol('1');
            formula.addStep('1');
            table.fill(formula, 0);
        }
    }

    /** The moves that were played, and the values that they gave the first names, as bits. */
    private static final class History {
        private final int[] played = new int[MOST_WORDS];
        private int blocks;
        private int names;
        private int values;

        void clear() {
            blocks = 0;
            names = 0;
            values = 0;
        }

        void add(int m, int size) {
            if (within(blocks, MOST_WORDS)) {
                played[blocks] = m;
                blocks++;
                names += size;
                values = values << size | m;
            }
        }

        int takeBack(int size) {
            if (!within(blocks - 1, MOST_WORDS)) {
                return NONE;
            }
            blocks--;
            names -= size;
            values >>= size;
            return played[blocks];
        }

        int valueOf(int k) {
            return within(k, names) ? values >> (names - 1 - k) & 1 : NONE;
        }

        int valuesWith(int k, int value) {
            int shift = names - 1 - k;
            return values & ~(1 << shift) | value << shift;
        }
    }

    /**
     * Folds a truth table name by name, from the last: two ways that differ in that name alone become
     * one, by him who chooses the name. The result stays at the bit where the name is 0.
     */
    private static final class Solver {
        private final long[] work = new long[MOST_TABLE_WORDS];
        private final int[] choosers = new int[MOST_NAMES];
        private int names;
        private int used;
        private int folded;

        void letOwnersChoose(Blocks blocks) {
            names = blocks.names;
            for (int k = 0; k < names && k < MOST_NAMES; k++) {
                choosers[k] = blocks.ownerOf(blocks.blockOf(k));
            }
        }

        void fix(int k, int value) {
            if (within(k, MOST_NAMES)) {
                choosers[k] = FIXED + value;
            }
        }

        void turnBlock(Blocks blocks, int b) {
            for (int k = 0; k < names && k < MOST_NAMES; k++) {
                if (blocks.blockOf(k) == b) {
                    choosers[k] = choosers[k] == SOME ? ALL : SOME;
                }
            }
        }

        /** The first names have the values; those from keep on are folded away. */
        void fold(Table table, int values, int first, int keep) {
            load(table, values, first);
            folded = names - keep;
            for (int bit = 0; bit < folded; bit++) {
                foldBit(bit, names - 1 - bit);
            }
        }

        /** Whether SOME wins, for values of the names that were kept. */
        int outcome(int way) {
            int place = way << folded;
            int w = place >> WORD_SHIFT;
            return within(w, MOST_TABLE_WORDS) ? (int) (work[w] >>> (place & WORD_BITS - 1) & 1L) : 0;
        }

        int countOnes(Table table, int values, int first) {
            load(table, values, first);
            int ways = 1 << names - first;
            if (ways < WORD_BITS) {
                work[0] &= (1L << ways) - 1L;
            }
            int ones = 0;
            for (int w = 0; w < used && w < MOST_TABLE_WORDS; w++) {
                ones += Long.bitCount(work[w]);
            }
            return ones;
        }

        private void load(Table table, int values, int first) {
            int left = names - first;
            int start = values << left;
            used = tableWords(left);
            for (int w = 0; w < used && w < MOST_TABLE_WORDS; w++) {
                work[w] = table.wordAt((start >> WORD_SHIFT) + w);
            }
            // Fewer ways than a word has bits may begin within it.
            work[0] >>>= start & WORD_BITS - 1;
        }

        private void foldBit(int bit, int k) {
            int chooser = within(k, MOST_NAMES) ? choosers[k] : SOME;
            if (bit < WORD_SHIFT) {
                for (int w = 0; w < used && w < MOST_TABLE_WORDS; w++) {
                    work[w] = choose(chooser, work[w], work[w] >>> (1 << bit));
                }
                return;
            }
            int half = 1 << bit - WORD_SHIFT;
            for (int w = 0; w + half < used && w + half < MOST_TABLE_WORDS; w += 2 * half) {
                work[w] = choose(chooser, work[w], work[w + half]);
            }
        }

        private static long choose(int chooser, long ifZero, long ifOne) {
            switch (chooser) {
                case SOME:
                    return ifZero | ifOne;
                case ALL:
                    return ifZero & ifOne;
                case FIXED:
                    return ifZero;
                default:
                    return ifOne;
            }
        }
    }

    /** The bytes that were written. */
    private static final class Page {
        // A token has two bytes at the most, and no token is written that was not read.
        private static final int MOST_WRITTEN = 2 * MOST_TOKENS;

        private final int[] bytes = new int[MOST_WRITTEN];
        private int size;

        void addTimes(int octet, int times) {
            for (int i = 0; i < times; i++) {
                add(octet);
            }
        }

        void addSymbol(int symbol, Blocks blocks) {
            if (symbol < NAME) {
                add(symbol);
                return;
            }
            int code = blocks.codeOf(symbol - NAME);
            add(code & 255);
            if (code > 255) {
                add('0' + (code >> 8) - 1);
            }
        }

        int byteAt(int i) {
            return within(i, size) && i < MOST_WRITTEN ? bytes[i] : NONE;
        }

        private void add(int octet) {
            if (within(size, MOST_WRITTEN)) {
                bytes[size] = octet;
                size++;
            }
        }
    }
}
