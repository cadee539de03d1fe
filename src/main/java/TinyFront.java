import java.util.Arrays;

/**
 * A small language from its text to two engines: tokens, a table-driven parser, a tree, code for
 * a pile, and both the tree and the code run with so much fuel to the same end.
 */
public final class TinyFront {
    public static final int BAD = -1;
    public static final int FULL = -2;
    public static final int NOT_YET = -3;

    private static final int MOST_BYTES = 4000;
    private static final int MOST_BYTES_A_FEED = 8;
    private static final int MOST_SLOTS = 32;
    private static final int MOST_FUEL = 100000;
    private static final int MOST_HEIGHT = 200;
    // Every node but the whole has a token of its own.
    private static final int MOST_NODES = MOST_BYTES + 1;
    private static final int PLACE_BASE = -10;
    private static final int STRAY_BASE = -10000;
    private static final int NONE = -1;

    private final int[] text = new int[MOST_BYTES];
    private int length = 0;
    private final Tokens tokens = new Tokens(text);
    private final Parser parser = new Parser();
    private final Tree tree = new Tree();
    private final Paths paths = new Paths();
    private boolean treeKnown = false;
    private final Code words = new Code();
    private boolean wordsKnown = false;
    private final int[] inputs = new int[MOST_SLOTS];
    private final Run run = new Run();
    private final TreeEngine treeEngine = new TreeEngine(tree, paths, tokens, run);
    private final CodeEngine codeEngine = new CodeEngine(words, run);

    public TinyFront() {
    }

    public int feed(long bytes, int n) {
        if (n < 1 || n > MOST_BYTES_A_FEED) {
            return BAD;
        }
        if (length + n > MOST_BYTES) {
            return FULL;
        }
        for (int i = n - 1; i >= 0; i--) {
            text[length] = (int) (bytes >>> (8 * i)) & 255;
            length++;
        }
        forgetTokens();
        return length;
    }

    public int clear() {
        int had = length;
        length = 0;
        forgetTokens();
        Arrays.fill(inputs, 0);
        run.forget();
        return had;
    }

    public int lex() {
        forgetTokens();
        run.forget();
        int error = tokens.read(length);
        return error == NONE ? tokens.count : PLACE_BASE - error;
    }

    public int token(int i, int what) {
        if (!tokens.known || i < 0 || i > tokens.count) {
            return BAD;
        }
        switch (what) {
            case 0: return tokens.kind[i];
            case 1: return tokens.begin[i];
            case 2: return tokens.size[i];
            case 3: return tokens.worth[i];
            default: return BAD;
        }
    }

    public int slots() {
        return tokens.known ? tokens.names : 0;
    }

    public int parse() {
        if (!tokens.known) {
            return NOT_YET;
        }
        forgetTree();
        int wrong = parser.read(tokens);
        if (wrong != NONE) {
            return PLACE_BASE - wrong;
        }
        if (parser.grown.heightOfLatest() > MOST_HEIGHT) {
            return FULL;
        }
        tree.takeInOrder(parser.grown);
        paths.find(tree);
        int stray = paths.firstStray(tree);
        if (stray != NONE) {
            return STRAY_BASE - stray;
        }
        treeKnown = true;
        return tree.count;
    }

    public int reduced(int i) {
        if (i == -1) {
            return parser.toldCount;
        }
        return i >= 0 && i < parser.toldCount ? parser.told[i] : BAD;
    }

    public int node(int i, int what) {
        if (!treeKnown || i < 0 || i >= tree.count) {
            return BAD;
        }
        switch (what) {
            case 0: return tree.kind[i];
            case 1: return tree.token[i];
            case 2: return tree.parts[i];
            case 3: return tree.height[i];
            case 4: return tree.parts[i] > 0 ? i + 1 : BAD;
            case 5: return tree.lastPart(i);
            default: return BAD;
        }
    }

    public int compile() {
        if (!treeKnown) {
            return NOT_YET;
        }
        words.make(tree, paths, tokens);
        wordsKnown = true;
        return words.count;
    }

    public int code(int i, int what) {
        if (!wordsKnown || i < 0 || i >= words.count) {
            return BAD;
        }
        switch (what) {
            case 0: return words.number[i];
            case 1: return words.operand[i];
            default: return BAD;
        }
    }

    public int input(int slot, int v) {
        if (slot < 0 || slot >= MOST_SLOTS) {
            return 0;
        }
        int before = inputs[slot];
        inputs[slot] = v;
        return before;
    }

    public int runTree(int fuel) {
        if (fuel < 0 || fuel > MOST_FUEL) {
            return BAD;
        }
        if (!treeKnown) {
            return NOT_YET;
        }
        run.start(fuel, inputs);
        treeEngine.go();
        return run.how;
    }

    public int runCode(int fuel) {
        if (fuel < 0 || fuel > MOST_FUEL) {
            return BAD;
        }
        if (!wordsKnown) {
            return NOT_YET;
        }
        run.start(fuel, inputs);
        codeEngine.go();
        return run.how;
    }

    public int ran(int what) {
        if (!run.known) {
            return BAD;
        }
        switch (what) {
            case 0: return run.how;
            case 1: return run.taken;
            case 2: return run.printed;
            case 3: return run.last;
            default: return BAD;
        }
    }

    public int out(int i) {
        return run.known ? run.printedValue(i) : 0;
    }

    public int value(int slot) {
        return run.known ? run.load(slot) : 0;
    }

    private void forgetTokens() {
        tokens.known = false;
        forgetTree();
    }

    private void forgetTree() {
        treeKnown = false;
        wordsKnown = false;
    }

    /** The tokens of a text, THE END behind them. */
    private static final class Tokens {
        static final int END = 0;
        static final int NAME = 1;
        static final int NUMBER = 2;
        static final int PRINT = 3;
        static final int IF = 4;
        static final int ELSE = 5;
        static final int WHILE = 6;
        static final int BREAK = 7;
        static final int NEXT = 8;
        static final int OR = 9;
        static final int AND = 10;
        static final int SAME = 11;
        static final int LESS = 12;
        static final int PLUS = 13;
        static final int MINUS = 14;
        static final int TIMES = 15;
        static final int DIVIDE = 16;
        static final int REMAINDER = 17;
        static final int NOT = 18;
        static final int BECOMES = 19;
        static final int STOP = 20;
        static final int OPEN = 21;
        static final int CLOSE = 22;
        static final int BEGIN = 23;
        static final int FINISH = 24;

        private static final int LONGEST_NAME = 16;
        // In the order of their kinds, from OR and from LESS on.
        private static final String DOUBLE_SIGNS = "|&=";
        private static final String SINGLE_SIGNS = "<+-*/%!=;(){}";

        final int[] kind = new int[MOST_BYTES + 1];
        final int[] begin = new int[MOST_BYTES + 1];
        final int[] size = new int[MOST_BYTES + 1];
        final int[] worth = new int[MOST_BYTES + 1];
        int count = 0;
        int names = 0;
        boolean known = false;

        // Where each slot's name was first met in the text.
        private final int[] nameBegin = new int[MOST_SLOTS];
        private final int[] nameSize = new int[MOST_SLOTS];
        private final int[] text;
        private int length = 0;

        Tokens(int[] itsText) {
            text = itsText;
        }

        /** The place of the ERROR, or NONE: then the tokens are known. */
        int read(int newLength) {
            length = newLength;
            count = 0;
            names = 0;
            int at = behindBlanks(0);
            while (at < length) {
                int taken = addToken(at);
                if (taken <= 0) {
                    return at;
                }
                at = behindBlanks(at + taken);
            }
            put(END, length, 0, 0);
            known = true;
            return NONE;
        }

        private int behindBlanks(int from) {
            int at = from;
            boolean remark = false;
            while (at < length && (remark || isBlank(text[at]) || text[at] == '#')) {
                remark = text[at] != 10 && (remark || text[at] == '#');
                at++;
            }
            return at;
        }

        /** How many bytes the token has that begins there; 0 if none may. */
        private int addToken(int at) {
            if (isDigit(text[at])) {
                return addNumber(at);
            }
            if (isLetter(text[at])) {
                return addWordOrName(at);
            }
            return addSign(at);
        }

        private int addNumber(int from) {
            int at = from;
            int sum = 0;
            while (at < length && isDigit(text[at])) {
                sum = sum * 10 + (text[at] - '0');
                at++;
            }
            return add(NUMBER, from, at - from, sum);
        }

        private int addWordOrName(int from) {
            int at = from;
            while (at < length && (isLetter(text[at]) || isDigit(text[at]))) {
                at++;
            }
            int bytes = at - from;
            int word = wordKind(from, bytes);
            if (word != NAME) {
                return add(word, from, bytes, 0);
            }
            int slot = bytes > LONGEST_NAME ? NONE : slotOf(from, bytes);
            return slot == NONE ? 0 : add(NAME, from, bytes, slot);
        }

        private int addSign(int at) {
            char sign = (char) text[at];
            int place = DOUBLE_SIGNS.indexOf(sign);
            if (place >= 0 && at + 1 < length && text[at + 1] == sign) {
                return add(OR + place, at, 2, 0);
            }
            place = SINGLE_SIGNS.indexOf(sign);
            return place < 0 ? 0 : add(LESS + place, at, 1, 0);
        }

        private int add(int newKind, int newBegin, int newSize, int newWorth) {
            put(newKind, newBegin, newSize, newWorth);
            count++;
            return newSize;
        }

        private void put(int newKind, int newBegin, int newSize, int newWorth) {
            if (count < kind.length) {
                kind[count] = newKind;
                begin[count] = newBegin;
                size[count] = newSize;
                worth[count] = newWorth;
            }
        }

        /** The slot of a name, perhaps a new one; NONE when there are too many. */
        private int slotOf(int from, int bytes) {
            for (int slot = 0; slot < names; slot++) {
                if (nameSize[slot] == bytes && sameBytes(nameBegin[slot], from, bytes)) {
                    return slot;
                }
            }
            if (names >= MOST_SLOTS) {
                return NONE;
            }
            nameBegin[names] = from;
            nameSize[names] = bytes;
            names++;
            return names - 1;
        }

        private boolean sameBytes(int one, int other, int bytes) {
            for (int i = 0; i < bytes; i++) {
                if (text[one + i] != text[other + i]) {
                    return false;
                }
            }
            return true;
        }

        private int wordKind(int from, int bytes) {
            for (int word = PRINT; word <= NEXT; word++) {
                if (isSpelled(from, bytes, spelling(word))) {
                    return word;
                }
            }
            return NAME;
        }

        private static String spelling(int word) {
            switch (word) {
                case PRINT: return "print";
                case IF: return "if";
                case ELSE: return "else";
                case WHILE: return "while";
                case BREAK: return "break";
                default: return "next";
            }
        }

        private boolean isSpelled(int from, int bytes, String word) {
            if (bytes != word.length()) {
                return false;
            }
            for (int i = 0; i < bytes; i++) {
                if (text[from + i] != word.charAt(i)) {
                    return false;
                }
            }
            return true;
        }

        private static boolean isBlank(int b) {
            return b == 9 || b == 10 || b == 13 || b == 32;
        }

        private static boolean isDigit(int b) {
            return b >= '0' && b <= '9';
        }

        private static boolean isLetter(int b) {
            return b >= 'a' && b <= 'z' || b >= 'A' && b <= 'Z' || b == '_';
        }
    }

    /** The rules, and what the parser does in each of their sets of items. */
    private static final class Table {
        static final int ACCEPT = 1000;

        // The big letters are numbered behind the kinds of tokens.
        private static final int KINDS = 25;
        private static final int P = 25;
        private static final int L = 26;
        private static final int S = 27;
        private static final int B = 28;
        private static final int E = 29;
        private static final int A = 30;
        private static final int R = 31;
        private static final int T = 32;
        private static final int F = 33;
        private static final int U = 34;
        private static final int W = 35;
        private static final int SYMBOLS = 36;
        private static final int LETTERS = SYMBOLS - KINDS;

        private static final int RULES = 32;
        private static final int[] LETTER_OF = {
            P, L, L, S, S, S, S, S, S, S, S, B, E, E, A, A,
            R, R, R, T, T, T, F, F, F, F, U, U, U, W, W, W,
        };
        // An item is a place in here: the point stands before what is there. A row ends with -1
        // less its rule's number, so that an item with its point at the end tells its rule.
        private static final int[] ROWS = {
            L, -1,
            -2,
            L, S, -3,
            Tokens.NAME, Tokens.BECOMES, E, Tokens.STOP, -4,
            Tokens.PRINT, E, Tokens.STOP, -5,
            Tokens.IF, Tokens.OPEN, E, Tokens.CLOSE, B, -6,
            Tokens.IF, Tokens.OPEN, E, Tokens.CLOSE, B, Tokens.ELSE, B, -7,
            Tokens.WHILE, Tokens.OPEN, E, Tokens.CLOSE, B, -8,
            Tokens.BREAK, Tokens.STOP, -9,
            Tokens.NEXT, Tokens.STOP, -10,
            B, -11,
            Tokens.BEGIN, L, Tokens.FINISH, -12,
            E, Tokens.OR, A, -13,
            A, -14,
            A, Tokens.AND, R, -15,
            R, -16,
            R, Tokens.SAME, T, -17,
            R, Tokens.LESS, T, -18,
            T, -19,
            T, Tokens.PLUS, F, -20,
            T, Tokens.MINUS, F, -21,
            F, -22,
            F, Tokens.TIMES, U, -23,
            F, Tokens.DIVIDE, U, -24,
            F, Tokens.REMAINDER, U, -25,
            U, -26,
            Tokens.MINUS, U, -27,
            Tokens.NOT, U, -28,
            W, -29,
            Tokens.NAME, -30,
            Tokens.NUMBER, -31,
            Tokens.OPEN, E, Tokens.CLOSE, -32,
        };
        // The rules make 63 sets, and no core has more than 4 items.
        private static final int MOST_SETS = 64;
        private static final int MOST_CORE = 8;

        // By set and symbol: 0 nothing, ACCEPT, a set to go on to, or (below 0) a rule to reduce.
        private final int[] acts = new int[MOST_SETS * SYMBOLS];
        private final int[] start = new int[RULES];
        private final int[] rowLength = new int[RULES];
        // Kinds as bits, by symbol.
        private final int[] first = new int[SYMBOLS];
        private final int[] follow = new int[SYMBOLS];

        // A set is known by its core: the items that were moved into it.
        private final int[] cores = new int[MOST_SETS * MOST_CORE];
        private final int[] coreSize = new int[MOST_SETS];
        private int sets = 0;
        private final int[] moved = new int[MOST_CORE];
        private int movedCount = 0;
        private final int[] members = new int[ROWS.length];
        private int memberCount = 0;

        Table() {
            measureRows();
            findFirst();
            findFollow();
            findSets();
        }

        int act(int set, int symbol) {
            int place = set * SYMBOLS + symbol;
            return place >= 0 && place < acts.length ? acts[place] : 0;
        }

        int lengthOf(int rule) {
            return rowLength[rule];
        }

        int letterOf(int rule) {
            return LETTER_OF[rule];
        }

        private void measureRows() {
            int rule = 0;
            for (int item = 0; item < ROWS.length && rule < RULES; item++) {
                if (ROWS[item] < 0) {
                    rowLength[rule] = item - start[rule];
                    rule++;
                    if (rule < RULES) {
                        start[rule] = item + 1;
                    }
                }
            }
        }

        private void findFirst() {
            for (int kind = 0; kind < KINDS; kind++) {
                first[kind] = 1 << kind;
            }
            // What a letter begins with passes at most through every other letter.
            for (int pass = 0; pass < LETTERS; pass++) {
                for (int rule = 0; rule < RULES; rule++) {
                    first[LETTER_OF[rule]] |= firstFrom(start[rule]);
                }
            }
        }

        /** What the rest of a row can begin with. */
        private int firstFrom(int item) {
            int kinds = 0;
            int at = item;
            while (at < ROWS.length && ROWS[at] >= 0) {
                kinds |= first[ROWS[at]];
                if (ROWS[at] != L) {
                    break;
                }
                at++;
            }
            return kinds;
        }

        /** L alone can be nothing. */
        private static boolean canBeNothing(int item) {
            int at = item;
            while (at < ROWS.length && ROWS[at] == L) {
                at++;
            }
            return at >= ROWS.length || ROWS[at] < 0;
        }

        private void findFollow() {
            follow[P] = 1 << Tokens.END;
            for (int pass = 0; pass < LETTERS; pass++) {
                int rule = 0;
                for (int item = 0; item < ROWS.length && rule < RULES; item++) {
                    if (ROWS[item] < 0) {
                        rule++;
                    } else if (ROWS[item] >= KINDS) {
                        addFollow(item, LETTER_OF[rule]);
                    }
                }
            }
        }

        private void addFollow(int item, int whole) {
            int letter = ROWS[item];
            follow[letter] |= firstFrom(item + 1);
            if (canBeNothing(item + 1)) {
                follow[letter] |= follow[whole];
            }
        }

        private void findSets() {
            moved[0] = start[0];
            movedCount = 1;
            setOfMoved();
            for (int set = 0; set < sets && set < MOST_SETS; set++) {
                openMembers(set);
                findMoves(set);
                findEnds(set);
            }
        }

        private void openMembers(int set) {
            int opened = 0;
            memberCount = coreSize[set];
            for (int i = 0; i < memberCount; i++) {
                members[i] = cores[set * MOST_CORE + i];
            }
            for (int i = 0; i < memberCount && i < members.length; i++) {
                int symbol = ROWS[members[i]];
                if (symbol >= KINDS && (opened >> symbol - KINDS & 1) == 0) {
                    opened |= 1 << symbol - KINDS;
                    addBeginnings(symbol);
                }
            }
        }

        private void addBeginnings(int letter) {
            for (int rule = 0; rule < RULES; rule++) {
                if (LETTER_OF[rule] == letter && memberCount < members.length) {
                    members[memberCount] = start[rule];
                    memberCount++;
                }
            }
        }

        private void findMoves(int set) {
            for (int i = 0; i < memberCount; i++) {
                int symbol = ROWS[members[i]];
                if (symbol >= 0 && acts[set * SYMBOLS + symbol] == 0) {
                    moveOver(symbol, i);
                    acts[set * SYMBOLS + symbol] = setOfMoved();
                }
            }
        }

        private void moveOver(int symbol, int from) {
            movedCount = 0;
            for (int i = from; i < memberCount; i++) {
                if (ROWS[members[i]] == symbol && movedCount < MOST_CORE) {
                    moved[movedCount] = members[i] + 1;
                    movedCount++;
                }
            }
        }

        private int setOfMoved() {
            for (int set = 0; set < sets; set++) {
                if (isMoved(set)) {
                    return set;
                }
            }
            if (sets >= MOST_SETS) {
                return 0;
            }
            for (int i = 0; i < movedCount; i++) {
                cores[sets * MOST_CORE + i] = moved[i];
            }
            coreSize[sets] = movedCount;
            sets++;
            return sets - 1;
        }

        private boolean isMoved(int set) {
            if (coreSize[set] != movedCount) {
                return false;
            }
            for (int i = 0; i < movedCount; i++) {
                if (cores[set * MOST_CORE + i] != moved[i]) {
                    return false;
                }
            }
            return true;
        }

        private void findEnds(int set) {
            for (int i = 0; i < memberCount; i++) {
                int rule = -1 - ROWS[members[i]];
                if (rule == 0) {
                    acts[set * SYMBOLS + Tokens.END] = ACCEPT;
                } else if (rule > 0) {
                    addReductions(set, rule);
                }
            }
        }

        private void addReductions(int set, int rule) {
            int kinds = follow[LETTER_OF[rule]];
            for (int kind = 0; kind < KINDS; kind++) {
                if ((kinds >> kind & 1) == 1 && acts[set * SYMBOLS + kind] == 0) {
                    acts[set * SYMBOLS + kind] = -rule;
                }
            }
        }
    }

    /** Goes over the tokens by the table, tells what it reduces, and lets the tree grow. */
    private static final class Parser {
        // A token brings at most itself and an empty L upon the pile.
        private static final int MOST_DEPTH = 2 * MOST_BYTES + 4;
        // The dearest tokens are brackets, with seven rules for two of them.
        private static final int MOST_TOLD = 4 * MOST_BYTES + 16;
        private static final int MOST_STEPS = MOST_TOLD + MOST_BYTES + 2;

        private static final int BLOCK_RULE = 11;
        private static final int MORE_RULE = 2;
        // By rule: the kind of its node (or none), where its token stands in the row, its parts.
        private static final int[] NODE_OF = {
            NONE, NONE, NONE, Tree.SET, Tree.PRINT, Tree.IF, Tree.IF, Tree.WHILE,
            Tree.BREAK, Tree.NEXT, NONE, Tree.LIST, Tree.OR, NONE, Tree.AND, NONE,
            Tree.SAME, Tree.LESS, NONE, Tree.PLUS, Tree.TAKE, NONE, Tree.TIMES, Tree.DIVIDE,
            Tree.REMAINDER, NONE, Tree.MINUS, Tree.NOT, NONE, Tree.NAME, Tree.NUMBER, NONE,
        };
        private static final int[] TOKEN_AT = {
            0, 0, 0, 0, 0, 0, 0, 0, 0, 0, 0, 0, 1, 0, 1, 0,
            1, 1, 0, 1, 1, 0, 1, 1, 1, 0, 0, 0, 0, 0, 0, 0,
        };
        private static final int[] PARTS_OF = {
            0, 0, 0, 1, 1, 2, 3, 2, 0, 0, 0, 0, 2, 0, 2, 0,
            2, 2, 0, 2, 2, 0, 2, 2, 2, 0, 1, 1, 0, 0, 0, 0,
        };

        final int[] told = new int[MOST_TOLD];
        int toldCount = 0;
        // Its nodes stand in the order in which they were ready: parts before their whole.
        final Tree grown = new Tree();

        private final Table table = new Table();
        private final int[] sets = new int[MOST_DEPTH];
        // Of a token its number, of an L how many statements it has.
        private final int[] notes = new int[MOST_DEPTH];
        private int depth = 0;

        /** The number of the WRONG token, or NONE: then the tree is grown. */
        int read(Tokens tokens) {
            toldCount = 0;
            grown.count = 0;
            depth = 0;
            push(0, 0);
            int at = 0;
            for (int step = 0; step < MOST_STEPS && at <= tokens.count; step++) {
                int act = table.act(sets[depth - 1], tokens.kind[at]);
                if (act == 0) {
                    return at;
                }
                if (act == Table.ACCEPT) {
                    grown.add(Tree.LIST, 0, notes[depth - 1]);
                    return NONE;
                }
                if (act > 0) {
                    push(act, at);
                    at++;
                } else {
                    reduce(-act);
                }
            }
            return at;
        }

        private void push(int set, int note) {
            if (depth < MOST_DEPTH) {
                sets[depth] = set;
                notes[depth] = note;
                depth++;
            }
        }

        private void reduce(int rule) {
            tell(rule);
            int base = depth - table.lengthOf(rule);
            if (base < 1) {
                return;
            }
            grow(rule, base);
            int note = rule == MORE_RULE ? notes[base] + 1 : 0;
            depth = base;
            push(table.act(sets[base - 1], table.letterOf(rule)), note);
        }

        private void tell(int rule) {
            if (toldCount < MOST_TOLD) {
                told[toldCount] = rule;
                toldCount++;
            }
        }

        private void grow(int rule, int base) {
            if (NODE_OF[rule] == NONE) {
                return;
            }
            int parts = rule == BLOCK_RULE ? notes[base + 1] : PARTS_OF[rule];
            grown.add(NODE_OF[rule], notes[base + TOKEN_AT[rule]], parts);
        }
    }

    /** Nodes in rows; each with all of its parts is one run of places. */
    private static final class Tree {
        static final int LIST = 0;
        static final int SET = 1;
        static final int PRINT = 2;
        static final int IF = 3;
        static final int WHILE = 4;
        static final int BREAK = 5;
        static final int NEXT = 6;
        static final int OR = 7;
        static final int AND = 8;
        static final int SAME = 9;
        static final int LESS = 10;
        static final int PLUS = 11;
        static final int TAKE = 12;
        static final int TIMES = 13;
        static final int DIVIDE = 14;
        static final int REMAINDER = 15;
        static final int MINUS = 16;
        static final int NOT = 17;
        static final int NAME = 18;
        static final int NUMBER = 19;

        final int[] kind = new int[MOST_NODES];
        final int[] token = new int[MOST_NODES];
        final int[] parts = new int[MOST_NODES];
        final int[] height = new int[MOST_NODES];
        // How many nodes it is with all of its parts.
        final int[] size = new int[MOST_NODES];
        int count = 0;

        private final int[] placeOf = new int[MOST_NODES];

        /** A whole comes behind its parts, which are the latest so many that have no whole. */
        void add(int newKind, int newToken, int newParts) {
            if (count >= MOST_NODES) {
                return;
            }
            int highest = 0;
            int at = count - 1;
            for (int part = 0; part < newParts && at >= 0; part++) {
                highest = Math.max(highest, height[at]);
                at -= size[at];
            }
            kind[count] = newKind;
            token[count] = newToken;
            parts[count] = newParts;
            height[count] = highest + 1;
            size[count] = count - at;
            count++;
        }

        int heightOfLatest() {
            return count > 0 ? height[count - 1] : 0;
        }

        /** From a tree whose wholes come behind their parts to one where they come before. */
        void takeInOrder(Tree grown) {
            count = grown.count;
            if (count == 0) {
                return;
            }
            placeOf[count - 1] = 0;
            for (int from = count - 1; from >= 0; from--) {
                int place = placeOf[from];
                kind[place] = grown.kind[from];
                token[place] = grown.token[from];
                parts[place] = grown.parts[from];
                height[place] = grown.height[from];
                size[place] = grown.size[from];
                placeParts(grown, from);
            }
        }

        private void placeParts(Tree grown, int whole) {
            int end = placeOf[whole] + grown.size[whole];
            int at = whole - 1;
            for (int part = 0; part < grown.parts[whole] && at >= 0; part++) {
                end -= grown.size[at];
                placeOf[at] = end;
                at -= grown.size[at];
            }
        }

        int lastPart(int i) {
            int at = BAD;
            for (int part = 0; part < parts[i]; part++) {
                at = part == 0 ? i + 1 : behind(at);
            }
            return at;
        }

        /** The node behind one and all of its parts. */
        int behind(int i) {
            return i >= 0 && i < count ? i + size[i] : count;
        }
    }

    /**
     * Where the statements of a tree go on. A way is a statement that is no LIST, or the end, or
     * (below 0) a new round of a WHILE. LISTs take no fuel, so the ways lead past them: a run is
     * never longer than its fuel.
     */
    private static final class Paths {
        // The innermost WHILE around a statement, or NONE.
        final int[] loop = new int[MOST_NODES];
        int end = 0;

        // What stands behind a statement, LIST or not; and where a node is truly begun.
        private final int[] next = new int[MOST_NODES];
        private final int[] entry = new int[MOST_NODES];

        void find(Tree tree) {
            end = tree.count;
            next[0] = end;
            loop[0] = NONE;
            for (int i = 0; i < tree.count; i++) {
                placeStatements(tree, i);
            }
            for (int i = tree.count - 1; i >= 0; i--) {
                entry[i] = i;
                if (tree.kind[i] == Tree.LIST) {
                    entry[i] = into(tree.parts[i] > 0 ? i + 1 : next[i]);
                }
            }
        }

        private void placeStatements(Tree tree, int i) {
            int kind = tree.kind[i];
            if (kind != Tree.LIST && kind != Tree.IF && kind != Tree.WHILE) {
                return;
            }
            int at = i + 1;
            for (int part = 0; part < tree.parts[i] && at < tree.count; part++) {
                int behind = tree.behind(at);
                boolean more = kind == Tree.LIST && part + 1 < tree.parts[i];
                next[at] = more ? behind : kind == Tree.WHILE ? round(i) : next[i];
                loop[at] = kind == Tree.WHILE ? i : loop[i];
                at = behind;
            }
        }

        /** The token of the first BREAK or NEXT that is in no WHILE, or NONE. */
        int firstStray(Tree tree) {
            for (int i = 0; i < tree.count; i++) {
                boolean leaves = tree.kind[i] == Tree.BREAK || tree.kind[i] == Tree.NEXT;
                if (leaves && loop[i] == NONE) {
                    return tree.token[i];
                }
            }
            return NONE;
        }

        /** From a WHILE to the way of its next round, and back. */
        static int round(int loopOrWay) {
            return -1 - loopOrWay;
        }

        int into(int way) {
            return way >= 0 && way < end ? entry[way] : way;
        }

        int behind(int statement) {
            return statement >= 0 && statement < end ? into(next[statement]) : end;
        }
    }

    /** The code of a tree: each node's words have their places before any is written. */
    private static final class Code {
        static final int PUSH = 0;
        static final int LOAD = 1;
        static final int STORE = 2;
        static final int ADD = 3;
        static final int SUB = 4;
        static final int MUL = 5;
        static final int DIV = 6;
        static final int REM = 7;
        static final int SAME = 8;
        static final int LESS = 9;
        static final int NEG = 10;
        static final int NOT = 11;
        static final int TRUTH = 12;
        static final int JUMP = 13;
        static final int UNLESS = 14;
        static final int OUT = 15;
        static final int HALT = 16;

        // || and && bring two words a byte, all else at most one; and HALT.
        private static final int MOST_WORDS = 2 * MOST_BYTES + 1;

        // By kind of node: its one word; its own words beside its parts'; those between two parts.
        private static final int[] WORD_OF = {
            NONE, STORE, OUT, NONE, NONE, JUMP, JUMP, NONE, NONE, SAME,
            LESS, ADD, SUB, MUL, DIV, REM, NEG, NOT, LOAD, PUSH,
        };
        private static final int[] OWN_WORDS = {
            0, 1, 1, 1, 2, 1, 1, 4, 4, 1, 1, 1, 1, 1, 1, 1, 1, 1, 1, 1,
        };
        private static final int[] WORDS_BETWEEN = {
            0, 0, 0, 1, 1, 0, 0, 3, 1, 0, 0, 0, 0, 0, 0, 0, 0, 0, 0, 0,
        };

        final int[] number = new int[MOST_WORDS];
        final int[] operand = new int[MOST_WORDS];
        int count = 0;

        private final int[] start = new int[MOST_NODES];
        private final int[] wordCount = new int[MOST_NODES];

        static int wordOf(int kind) {
            return kind >= 0 && kind < WORD_OF.length ? WORD_OF[kind] : NONE;
        }

        void make(Tree tree, Paths paths, Tokens tokens) {
            for (int i = tree.count - 1; i >= 0; i--) {
                measure(tree, i);
            }
            start[0] = 0;
            for (int i = 0; i < tree.count; i++) {
                placeParts(tree, i);
                write(tree, paths, tokens, i);
            }
            put(wordCount[0], HALT, 0);
            count = wordCount[0] + 1;
        }

        private void measure(Tree tree, int i) {
            int sum = OWN_WORDS[tree.kind[i]];
            if (tree.kind[i] == Tree.IF && tree.parts[i] == 3) {
                sum++;
            }
            int at = i + 1;
            for (int part = 0; part < tree.parts[i] && at < tree.count; part++) {
                sum += wordCount[at];
                at = tree.behind(at);
            }
            wordCount[i] = sum;
        }

        private void placeParts(Tree tree, int i) {
            int place = start[i];
            int at = i + 1;
            for (int part = 0; part < tree.parts[i] && at < tree.count; part++) {
                start[at] = place;
                place += wordCount[at] + WORDS_BETWEEN[tree.kind[i]];
                at = tree.behind(at);
            }
        }

        private void write(Tree tree, Paths paths, Tokens tokens, int i) {
            switch (tree.kind[i]) {
                case Tree.LIST: break;
                case Tree.IF: writeIf(tree, i); break;
                case Tree.WHILE: writeWhile(i); break;
                case Tree.OR: writeOr(i); break;
                case Tree.AND: writeAnd(i); break;
                case Tree.BREAK: put(start[i], JUMP, endOf(paths.loop[i])); break;
                case Tree.NEXT: put(start[i], JUMP, startOf(paths.loop[i])); break;
                case Tree.SET:
                case Tree.NAME:
                case Tree.NUMBER:
                    put(endOf(i) - 1, WORD_OF[tree.kind[i]], tokens.worth[tree.token[i]]);
                    break;
                default: put(endOf(i) - 1, WORD_OF[tree.kind[i]], 0);
            }
        }

        private void writeIf(Tree tree, int i) {
            int list = tree.behind(i + 1);
            if (tree.parts[i] == 3) {
                int second = startOf(tree.behind(list));
                put(startOf(list) - 1, UNLESS, second);
                put(second - 1, JUMP, endOf(i));
            } else {
                put(startOf(list) - 1, UNLESS, endOf(i));
            }
        }

        private void writeWhile(int i) {
            put(endOf(i + 1), UNLESS, endOf(i));
            put(endOf(i) - 1, JUMP, start[i]);
        }

        private void writeAnd(int i) {
            int end = endOf(i);
            put(endOf(i + 1), UNLESS, end - 1);
            put(end - 3, TRUTH, 0);
            put(end - 2, JUMP, end);
            put(end - 1, PUSH, 0);
        }

        private void writeOr(int i) {
            int end = endOf(i);
            int middle = endOf(i + 1);
            put(middle, UNLESS, middle + 3);
            put(middle + 1, PUSH, 1);
            put(middle + 2, JUMP, end);
            put(end - 1, TRUTH, 0);
        }

        private int startOf(int i) {
            return i >= 0 && i < MOST_NODES ? start[i] : 0;
        }

        private int endOf(int i) {
            return i >= 0 && i < MOST_NODES ? start[i] + wordCount[i] : 0;
        }

        private void put(int place, int newNumber, int newOperand) {
            if (place >= 0 && place < MOST_WORDS) {
                number[place] = newNumber;
                operand[place] = newOperand;
            }
        }
    }

    /** A run: its fuel, its variables, what it printed and how it ended. */
    private static final class Run {
        static final int GOING = -1;
        static final int CAME_TO_END = 0;
        static final int WITHOUT_FUEL = 1;
        static final int DIVIDED = 2;
        private static final int MOST_KEPT = 1000;

        boolean known = false;
        int how = GOING;
        int fuel = 0;
        int taken = 0;
        int last = BAD;
        int printed = 0;
        private final int[] kept = new int[MOST_KEPT];
        private final int[] variables = new int[MOST_SLOTS];

        void start(int newFuel, int[] inputs) {
            known = true;
            how = GOING;
            fuel = newFuel;
            taken = 0;
            last = BAD;
            printed = 0;
            System.arraycopy(inputs, 0, variables, 0, MOST_SLOTS);
        }

        void forget() {
            known = false;
        }

        boolean isGoing() {
            return how == GOING;
        }

        /** Whether a node or word may begin: it takes 1 of fuel then. */
        boolean begins(int which) {
            if (taken >= fuel) {
                how = WITHOUT_FUEL;
                return false;
            }
            taken++;
            last = which;
            return true;
        }

        void print(int v) {
            if (printed < MOST_KEPT) {
                kept[printed] = v;
            }
            printed++;
        }

        int printedValue(int i) {
            return i >= 0 && i < printed && i < MOST_KEPT ? kept[i] : 0;
        }

        int load(int slot) {
            return slot >= 0 && slot < MOST_SLOTS ? variables[slot] : 0;
        }

        void store(int slot, int v) {
            if (slot >= 0 && slot < MOST_SLOTS) {
                variables[slot] = v;
            }
        }

        /** What a word makes of its values; those of one value alone look at the right one. */
        int calculate(int word, int left, int right) {
            switch (word) {
                case Code.ADD: return left + right;
                case Code.SUB: return left - right;
                case Code.MUL: return left * right;
                case Code.DIV: return right == 0 ? divided() : left / right;
                case Code.REM: return right == 0 ? divided() : left % right;
                case Code.SAME: return left == right ? 1 : 0;
                case Code.LESS: return left < right ? 1 : 0;
                case Code.NEG: return -right;
                case Code.NOT: return right == 0 ? 1 : 0;
                default: return right != 0 ? 1 : 0;
            }
        }

        private int divided() {
            how = DIVIDED;
            return 0;
        }
    }

    /** Runs the tree: statements by their ways, exps over their places from left to right. */
    private static final class TreeEngine {
        private final Tree tree;
        private final Paths paths;
        private final Tokens tokens;
        private final Run run;

        // The exps that have begun and wait for a part, with the value of a first part.
        private final int[] waiting = new int[MOST_HEIGHT];
        private final int[] firstValue = new int[MOST_HEIGHT];
        private int depth = 0;
        private int result = 0;

        TreeEngine(Tree itsTree, Paths itsPaths, Tokens itsTokens, Run itsRun) {
            tree = itsTree;
            paths = itsPaths;
            tokens = itsTokens;
            run = itsRun;
        }

        void go() {
            int way = paths.into(0);
            for (int turn = 0; turn <= run.fuel && run.isGoing() && way != paths.end; turn++) {
                way = way < 0 ? goRound(Paths.round(way)) : goStatement(way);
            }
            if (run.isGoing()) {
                run.how = Run.CAME_TO_END;
            }
        }

        private int goRound(int i) {
            if (!run.begins(i)) {
                return paths.end;
            }
            evaluate(i + 1);
            return result != 0 ? paths.into(tree.behind(i + 1)) : paths.behind(i);
        }

        private int goStatement(int i) {
            if (!run.begins(i)) {
                return paths.end;
            }
            switch (tree.kind[i]) {
                case Tree.WHILE: return Paths.round(i);
                case Tree.BREAK: return paths.behind(paths.loop[i]);
                case Tree.NEXT: return Paths.round(paths.loop[i]);
                default: evaluate(i + 1);
            }
            return run.isGoing() ? useResult(i) : paths.end;
        }

        private int useResult(int i) {
            if (tree.kind[i] == Tree.IF) {
                return chooseList(i);
            }
            if (tree.kind[i] == Tree.SET) {
                run.store(tokens.worth[tree.token[i]], result);
            } else {
                run.print(result);
            }
            return paths.behind(i);
        }

        private int chooseList(int i) {
            int list = tree.behind(i + 1);
            if (result != 0) {
                return paths.into(list);
            }
            return tree.parts[i] == 3 ? paths.into(tree.behind(list)) : paths.behind(i);
        }

        /** Leaves the value of an exp in result, if the run is still going then. */
        private void evaluate(int exp) {
            depth = 0;
            result = 0;
            int end = tree.behind(exp);
            int at = exp;
            for (int turn = 0; turn < MOST_NODES && at < end && run.isGoing(); turn++) {
                if (!run.begins(at)) {
                    return;
                }
                if (tree.parts[at] == 0) {
                    at = settle(worthOf(at), at + 1);
                } else {
                    waitForParts(at);
                    at++;
                }
            }
        }

        private void waitForParts(int exp) {
            if (depth < MOST_HEIGHT) {
                waiting[depth] = exp;
                depth++;
            }
        }

        private int worthOf(int i) {
            int worth = tokens.worth[tree.token[i]];
            return tree.kind[i] == Tree.NAME ? run.load(worth) : worth;
        }

        /** A part has its value, and the next one would be at a place: where it goes on. */
        private int settle(int partValue, int nextPlace) {
            int v = partValue;
            int at = nextPlace;
            while (depth > 0 && run.isGoing()) {
                int whole = waiting[depth - 1];
                int end = tree.behind(whole);
                if (at < end && !isDecided(tree.kind[whole], v)) {
                    firstValue[depth - 1] = v;
                    return at;
                }
                at = end;
                depth--;
                v = run.calculate(Code.wordOf(tree.kind[whole]), firstValue[depth], v);
            }
            result = v;
            return at;
        }

        /** Whether the first part alone gives the value of the whole. */
        private static boolean isDecided(int kind, int v) {
            return kind == Tree.AND && v == 0 || kind == Tree.OR && v != 0;
        }
    }

    /** Runs the code on a pile. */
    private static final class CodeEngine {
        // An exp never has more values waiting than it is high.
        private static final int MOST_VALUES = MOST_HEIGHT + 8;

        private final Code words;
        private final Run run;
        private final int[] pile = new int[MOST_VALUES];
        private int depth = 0;

        CodeEngine(Code itsWords, Run itsRun) {
            words = itsWords;
            run = itsRun;
        }

        void go() {
            depth = 0;
            int at = 0;
            for (int turn = 0; turn <= run.fuel && run.isGoing(); turn++) {
                if (at < 0 || at >= words.count || !run.begins(at)) {
                    return;
                }
                at = goWord(at, words.number[at], words.operand[at]);
            }
        }

        private int goWord(int at, int word, int operand) {
            switch (word) {
                case Code.PUSH: push(operand); return at + 1;
                case Code.LOAD: push(run.load(operand)); return at + 1;
                case Code.STORE: run.store(operand, pop()); return at + 1;
                case Code.JUMP: return operand;
                case Code.UNLESS: return pop() != 0 ? at + 1 : operand;
                case Code.OUT: run.print(pop()); return at + 1;
                case Code.HALT: run.how = Run.CAME_TO_END; return at;
                default: replaceUppermost(word); return at + 1;
            }
        }

        private void replaceUppermost(int word) {
            int right = pop();
            int left = isOfOne(word) ? 0 : pop();
            push(run.calculate(word, left, right));
        }

        private static boolean isOfOne(int word) {
            return word == Code.NEG || word == Code.NOT || word == Code.TRUTH;
        }

        private void push(int v) {
            if (depth < MOST_VALUES) {
                pile[depth] = v;
                depth++;
            }
        }

        private int pop() {
            if (depth == 0) {
                return 0;
            }
            depth--;
            return pile[depth];
        }
    }
}
