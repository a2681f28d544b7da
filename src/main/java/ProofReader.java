/**
 * Reads texts of a frame in which logics are told and proofs checked, and prints the types that
 * they ask for.
 *
 * <p>All expressions lie in one row of nodes (see Code), used as a stack: the kinds and types of
 * the constants, then what the sentence at hand says, then the types that checking works on. So a
 * node is told by one number wherever it lies, and no call makes an object.
 */
public final class ProofReader {
    public static final int NONE = -1;

    private static final int MOST_BYTES = 8192;
    private static final int MOST_PAPER = 4096;
    private static final int MOST_CONSTANTS = 48;
    private static final int MOST_NAME = 12;
    private static final int MOST_OPEN = 40;
    private static final int MOST_NODES = 300;

    private static final int BAD_BYTE = 1;
    private static final int BAD_TOKEN = 2;
    private static final int UNKNOWN_NAME = 3;
    private static final int NO_NEW_CONSTANT = 4;
    private static final int TOO_MUCH = 5;
    private static final int WRONG_SORT = 6;
    private static final int TOO_HIGH = 7;
    private static final int MISFIT = 8;
    private static final int NOT_THE_SAME = 9;
    private static final int TOO_LARGE = 10;
    private static final int NO_PAPER = 11;

    private final Fault fault = new Fault();
    private final Code code = new Code();
    private final Paper paper = new Paper();
    private final Tokens tokens = new Tokens(fault);
    private final Constants constants = new Constants(code);
    private final Parser parser = new Parser(tokens, code, constants, fault);
    private final Checker checker = new Checker(code, constants, fault);
    private final Printer printer = new Printer(code, constants, paper);
    private int fed = 0;

    /** No text, no constants, an empty paper. */
    public ProofReader() {
    }

    /** Lays the n lowest bytes, the lowest first, behind the text. */
    public int feed(int n, long bytes) throws IllegalArgumentException {
        if (n < 1 || n > 8) {
            throw new IllegalArgumentException("n is not 1 to 8");
        }
        if (n > MOST_BYTES - fed) {
            return NONE;
        }
        for (int i = 0; i < n; i++) {
            tokens.append((byte) (bytes >>> (8 * i)));
        }
        fed += n;
        return tokens.length;
    }

    /** Reads all sentences of the text up to the first one that is wrong. */
    public int read() {
        int sentences = 0;
        fault.forget();
        tokens.restart();
        // each sentence takes bytes of the text, so there are never as many as it can have bytes
        while (sentences < MOST_BYTES && tokens.advance() && tokens.kind != Tokens.END) {
            if (!parser.sentence() || !settle()) {
                break;
            }
            sentences++;
        }
        tokens.drop();
        return fault.number == 0 ? sentences : NONE;
    }

    /** The fault that the last read() met, 0 for none. */
    public int fault() {
        return fault.number;
    }

    /** Where that fault is, NONE for none. */
    public int place() {
        return fault.where;
    }

    /** Forgets the constants, the text and the paper; the fault stays. */
    public int clear() {
        int had = constants.count;
        constants.forget();
        tokens.drop();
        paper.length = 0;
        fed = 0;
        return had;
    }

    /** How many constants there are. */
    public int constants() {
        return constants.count;
    }

    /** Tells of constant k what is asked for. */
    public int constant(int k, int what) throws IllegalArgumentException, IndexOutOfBoundsException {
        if (what < 0 || what > 5) {
            throw new IllegalArgumentException("what is not 0 to 5");
        }
        if (k < 0 || k >= constants.count) {
            throw new IndexOutOfBoundsException("there is no such constant");
        }
        switch (what) {
            case 0:
                return constants.isFamily(k) ? 1 : 0;
            case 1:
                return code.products(constants.root[k]);
            case 2:
                return code.size[constants.root[k]];
            case 3:
                return code.order(constants.root[k]);
            case 4:
                return constants.proved[k] ? 1 : 0;
            default:
                return constants.isFamily(k) ? NONE : constants.target[k];
        }
    }

    /** How many bytes are on the paper. */
    public int printed() {
        return paper.length;
    }

    /** Eight bytes of the paper from byte i on, the first one the lowest. */
    public long paper(int i) {
        long eight = 0;
        for (int j = 0; j < 8; j++) {
            eight |= paper.at((long) i + j) << (8 * j);
        }
        return eight;
    }

    /** Empties the paper. */
    public int wipe() {
        int had = paper.length;
        paper.length = 0;
        return had;
    }

    /** Checks the sentence that was parsed and does what it says. */
    private boolean settle() {
        checker.work = parser.end;
        if (parser.question) {
            return checker.question(parser.first)
                    && (printer.print(checker.work) || fault.met(NO_PAPER, parser.start));
        }
        if (!checker.type(parser.first, !parser.proved, false)) {
            return false;
        }
        if (parser.proved && !checker.object(parser.second, parser.first, parser.end)) {
            return false;
        }
        constants.tell(parser.front, parser.back, parser.proved);
        return true;
    }

    /** The first thing that was wrong in a read(). */
    private static final class Fault {
        int number = 0;
        int where = NONE;

        void forget() {
            number = 0;
            where = NONE;
        }

        /** Keeps a fault; answers false, so that whoever meets one can return it. */
        boolean met(int kind, int token) {
            number = kind;
            where = token;
            return false;
        }
    }

    /** The text and the token that is looked at. */
    private static final class Tokens {
        // the other kinds of tokens are their only byte, above 32
        static final int END = 0;
        static final int NAME = 1;
        static final int TYPE = 2;
        static final int ARROW = 3;

        private static final long TYPE_BYTES = 0x65707974L;

        private final Fault fault;
        private final byte[] bytes = new byte[MOST_BYTES];
        private int next = 0;
        int length = 0;
        int kind = END;
        int start = 0;
        // a name's first eight bytes and its last four, the first one the lowest
        long front = 0;
        long back = 0;

        Tokens(Fault fault) {
            this.fault = fault;
        }

        void append(byte b) {
            if (length < MOST_BYTES) {
                bytes[length] = b;
                length++;
            }
        }

        void drop() {
            length = 0;
        }

        void restart() {
            next = 0;
        }

        /** Goes to the next token. */
        boolean advance() {
            while (next < length && at(next) <= 32) {
                next++;
            }
            start = next;
            if (next >= length) {
                kind = END;
                return true;
            }
            int b = at(next);
            if (isInNames(b)) {
                return takeName();
            }
            if (b == '-') {
                return takeArrow();
            }
            kind = b;
            next++;
            return isSingle(b) || fault.met(BAD_BYTE, start);
        }

        private int at(int i) {
            return bytes[i] & 255;
        }

        private boolean takeName() {
            front = 0;
            back = 0;
            while (next < length && isInNames(at(next))) {
                int i = next - start;
                if (i < 8) {
                    front |= (long) at(next) << (8 * i);
                } else if (i < MOST_NAME) {
                    back |= (long) at(next) << (8 * (i - 8));
                }
                next++;
            }
            kind = front == TYPE_BYTES && back == 0 ? TYPE : NAME;
            return next - start <= MOST_NAME || fault.met(BAD_BYTE, start);
        }

        private boolean takeArrow() {
            kind = ARROW;
            next += 2;
            return next <= length && at(next - 1) == '>' || fault.met(BAD_BYTE, start);
        }

        private static boolean isInNames(int b) {
            return b >= 'a' && b <= 'z' || b >= 'A' && b <= 'Z' || b >= '0' && b <= '9'
                    || b == '_' || b == '\'';
        }

        private static boolean isSingle(int b) {
            switch (b) {
                case ':':
                case '.':
                case '(':
                case ')':
                case '{':
                case '}':
                case '[':
                case ']':
                case '=':
                case '?':
                    return true;
                default:
                    return false;
            }
        }
    }

    /**
     * Expressions as rows of nodes, each node before its parts. A variable is told by its level,
     * the number of products in whose second parts and of functions in which its own product or
     * function stands. So expressions in the same surroundings are the same if their rows are.
     */
    private static final class Code {
        // a head is the number of a constant, or VARIABLES and the level of a variable
        static final int VARIABLES = MOST_CONSTANTS;
        static final int TYPE = -2;
        static final int PRODUCT = -3;
        static final int FUNCTION = -4;

        // Each node of a text has a byte of its own there, and what was fed is bounded. An
        // argument lies in at most MOST_OPEN others, and then may be a name without ( ): so many
        // types are worked on at once, and one more is being made.
        private static final int ROOM = MOST_BYTES + (MOST_OPEN + 3) * MOST_NODES;

        final int[] head = new int[ROOM];
        final int[] arity = new int[ROOM];
        final int[] size = new int[ROOM];
        final int[] level = new int[ROOM];
        // the place in the text; told for nodes of the sentence at hand alone
        final int[] where = new int[ROOM];

        /** Writes a node, which has no parts as yet. */
        void write(int p, int nodeHead, int nodeArity, int nodeLevel) {
            head[p] = nodeHead;
            arity[p] = nodeArity;
            size[p] = 1;
            level[p] = nodeLevel;
        }

        /** The second part of the product at p. */
        int second(int p) {
            return p + 1 + size[p + 1];
        }

        /** Where the i-th argument of the application at p stands. */
        int argument(int p, int i) {
            int q = p + 1;
            for (int j = 0; j < i; j++) {
                q += size[q];
            }
            return q;
        }

        /** Works out the sizes of the nodes between two places, the parts' before the whole's. */
        void measure(int from, int to) {
            for (int p = to - 1; p >= from; p--) {
                size[p] = argument(p, arity[p]) - p;
            }
        }

        boolean same(int p, int q) {
            if (size[p] != size[q]) {
                return false;
            }
            for (int i = 0; i < size[p]; i++) {
                if (head[p + i] != head[q + i] || arity[p + i] != arity[q + i]) {
                    return false;
                }
            }
            return true;
        }

        /** Moves count nodes. */
        void move(int from, int to, int count) {
            System.arraycopy(head, from, head, to, count);
            System.arraycopy(arity, from, arity, to, count);
            System.arraycopy(size, from, size, to, count);
            System.arraycopy(level, from, level, to, count);
        }

        /** Makes a free node at p, where count nodes stand now; it keeps the place of the first. */
        void makeRoom(int p, int count) {
            move(p, p + 1, count);
            System.arraycopy(where, p, where, p + 1, count);
        }

        /** Copies the expression at p to where it stands on another level. */
        void lift(int p, int to, int newLevel) {
            int count = size[p];
            int own = VARIABLES + level[p];
            int shift = newLevel - level[p];
            move(p, to, count);
            for (int q = to; q < to + count; q++) {
                level[q] += shift;
                if (head[q] >= own) {
                    head[q] += shift;
                }
            }
        }

        /** How many products lie one in the other's second part. */
        int products(int p) {
            int count = 0;
            for (int q = p; count < MOST_OPEN && head[q] == PRODUCT; q = second(q)) {
                count++;
            }
            return count;
        }

        /** What stands at the end of a kind or type, behind all its products. */
        int ending(int p) {
            int q = p;
            for (int i = 0; i < MOST_OPEN && head[q] == PRODUCT; i++) {
                q = second(q);
            }
            return q;
        }

        /** The order of a kind or type that was checked: a product in a first part has order 1. */
        int order(int p) {
            int order = 0;
            int q = p;
            for (int i = 0; i < MOST_OPEN && head[q] == PRODUCT; i++) {
                order = Math.max(order, head[q + 1] == PRODUCT ? 2 : 1);
                q = second(q);
            }
            return order;
        }
    }

    /** What was told. */
    private static final class Constants {
        private final Code code;
        final long[] front = new long[MOST_CONSTANTS];
        final long[] back = new long[MOST_CONSTANTS];
        final int[] root = new int[MOST_CONSTANTS];
        final int[] target = new int[MOST_CONSTANTS];
        final boolean[] proved = new boolean[MOST_CONSTANTS];
        int count = 0;
        // the first node behind their kinds and types
        int end = 0;

        Constants(Code code) {
            this.code = code;
        }

        void forget() {
            count = 0;
            end = 0;
        }

        boolean isFull() {
            return count >= MOST_CONSTANTS;
        }

        boolean isFamily(int k) {
            return target[k] == Code.TYPE;
        }

        int find(long nameFront, long nameBack) {
            for (int k = 0; k < count; k++) {
                if (front[k] == nameFront && back[k] == nameBack) {
                    return k;
                }
            }
            return NONE;
        }

        /** Keeps what stands behind the other kinds and types as that of a new constant. */
        void tell(long nameFront, long nameBack, boolean wasProved) {
            if (isFull()) {
                return;
            }
            front[count] = nameFront;
            back[count] = nameBack;
            root[count] = end;
            target[count] = code.head[code.ending(end)];
            proved[count] = wasProved;
            end += code.size[end];
            count++;
        }
    }

    /** Makes nodes of sentences; meets the faults that tokens have, each before the next token. */
    private static final class Parser {
        private final Tokens tokens;
        private final Code code;
        private final Constants constants;
        private final Fault fault;
        // the names of the variables at hand, by their levels
        private final long[] scopeFront = new long[MOST_OPEN];
        private final long[] scopeBack = new long[MOST_OPEN];
        private int level = 0;
        private int open = 0;
        private int nodes = 0;
        // the first node behind those that were made
        int end = 0;
        // the sentence: its first token, its name, and where its expressions stand
        int start = 0;
        boolean question = false;
        boolean proved = false;
        long front = 0;
        long back = 0;
        int first = 0;
        int second = 0;

        Parser(Tokens tokens, Code code, Constants constants, Fault fault) {
            this.tokens = tokens;
            this.code = code;
            this.constants = constants;
            this.fault = fault;
        }

        /** Takes a sentence from the token that is looked at up to its '.', and no further. */
        boolean sentence() {
            start = tokens.start;
            question = tokens.kind == '?';
            if (!question && !nameAndColon()) {
                return false;
            }
            end = constants.end;
            first = end;
            if (!wholeExpression()) {
                return false;
            }
            proved = !question && tokens.kind == '=';
            second = end;
            if (proved && !wholeExpression()) {
                return false;
            }
            return isNow('.');
        }

        private boolean nameAndColon() {
            if (!isNow(Tokens.NAME)) {
                return false;
            }
            front = tokens.front;
            back = tokens.back;
            if (constants.isFull() || constants.find(front, back) != NONE) {
                return fault.met(NO_NEW_CONSTANT, tokens.start);
            }
            return isNext(':');
        }

        /** Takes the expression behind the token that is looked at. */
        private boolean wholeExpression() {
            level = 0;
            open = 0;
            nodes = 0;
            return tokens.advance() && expression();
        }

        private boolean isNow(int kind) {
            return tokens.kind == kind || fault.met(BAD_TOKEN, tokens.start);
        }

        private boolean isNext(int kind) {
            return tokens.advance() && isNow(kind);
        }

        /** One more token is open; MOST_OPEN also bounds how deep these methods call one another. */
        private boolean opens() {
            if (open >= MOST_OPEN) {
                return fault.met(TOO_MUCH, tokens.start);
            }
            open++;
            return true;
        }

        private boolean counts() {
            if (nodes >= MOST_NODES) {
                return fault.met(TOO_MUCH, tokens.start);
            }
            nodes++;
            return true;
        }

        private boolean node(int head, int arity) {
            if (!counts()) {
                return false;
            }
            code.write(end, head, arity, level);
            code.where[end] = tokens.start;
            end++;
            return true;
        }

        private boolean expression() {
            if (tokens.kind == '{') {
                return product();
            }
            if (tokens.kind == '[') {
                return function();
            }
            int p = end;
            if (!simple()) {
                return false;
            }
            return tokens.kind != Tokens.ARROW || arrow(p);
        }

        private boolean product() {
            int p = end;
            if (!opens() || !node(Code.PRODUCT, 2) || !isNext(Tokens.NAME)) {
                return false;
            }
            long nameFront = tokens.front;
            long nameBack = tokens.back;
            return isNext(':') && tokens.advance() && expression() && isNow('}')
                    && scope(p, nameFront, nameBack);
        }

        private boolean function() {
            int p = end;
            if (!opens() || !node(Code.FUNCTION, 1) || !isNext(Tokens.NAME)) {
                return false;
            }
            long nameFront = tokens.front;
            long nameBack = tokens.back;
            return isNext(']') && scope(p, nameFront, nameBack);
        }

        /** Makes the first part at p that of a product, whose node must come before it. */
        private boolean arrow(int p) {
            if (!opens() || !counts()) {
                return false;
            }
            code.makeRoom(p, end - p);
            code.write(p, Code.PRODUCT, 2, level);
            end++;
            return scope(p, 0, 0);
        }

        /** Takes the part behind this token, in which the variable of the node at p is known. */
        private boolean scope(int p, long nameFront, long nameBack) {
            scopeFront[level] = nameFront;
            scopeBack[level] = nameBack;
            level++;
            if (!tokens.advance() || !expression()) {
                return false;
            }
            level--;
            open--;
            code.size[p] = end - p;
            return true;
        }

        private boolean simple() {
            int p = end;
            boolean named = tokens.kind == Tokens.NAME;
            if (!atom()) {
                return false;
            }
            if (!named) {
                return true;
            }
            // each argument has a node, so the bound is never met
            for (int count = 1; count <= MOST_NODES && atomBegins(); count++) {
                if (!atom()) {
                    return false;
                }
                code.arity[p] = count;
            }
            code.size[p] = end - p;
            return true;
        }

        private boolean atomBegins() {
            return tokens.kind == Tokens.NAME || tokens.kind == Tokens.TYPE || tokens.kind == '(';
        }

        /** Takes TYPE, a head without arguments, or an expression in ( ). */
        private boolean atom() {
            if (tokens.kind == Tokens.NAME) {
                int head = meaning();
                if (head == NONE) {
                    return fault.met(UNKNOWN_NAME, tokens.start);
                }
                return node(head, 0) && tokens.advance();
            }
            if (tokens.kind == Tokens.TYPE) {
                return node(Code.TYPE, 0) && tokens.advance();
            }
            if (!isNow('(') || !opens() || !tokens.advance() || !expression() || !isNow(')')) {
                return false;
            }
            open--;
            return tokens.advance();
        }

        /** The head that a name is: its innermost variable, otherwise its constant. */
        private int meaning() {
            for (int i = level - 1; i >= 0; i--) {
                if (scopeFront[i] == tokens.front && scopeBack[i] == tokens.back) {
                    return Code.VARIABLES + i;
                }
            }
            return constants.find(tokens.front, tokens.back);
        }
    }

    /**
     * Puts arguments in the places of variables. What is made is written node by node while
     * frames walk over what it is made of: an even frame over the second part of the product or
     * an argument in it, an odd one over what was put in a place, its functions taken off. So
     * nothing is worked out that does not come to stand in the result, and no more nodes of it
     * than are allowed.
     */
    private static final class Putter {
        // An even frame but the lowest walks over an argument of the variable in the walk of the
        // even one below it: no more of them lie one in the other than a type has nodes.
        private static final int MOST_FRAMES = 2 * MOST_NODES + 2;
        // a node of the result is at most all frames away from the one before it
        private static final int MOST_STEPS = 1000000;

        private final Code code;
        private final int[] at = new int[MOST_FRAMES];
        private final int[] stop = new int[MOST_FRAMES];
        // variables from this level on belong to what the frame walks over
        private final int[] base = new int[MOST_FRAMES];
        // how much higher than there the levels are in the result
        private final int[] shift = new int[MOST_FRAMES];
        // for an odd frame, where the variable stands that it walks in the place of
        private final int[] call = new int[MOST_FRAMES];
        private int top = -1;
        private int variable = 0;
        private int argument = 0;
        private int from = 0;
        private int end = 0;

        Putter(Code code) {
            this.code = code;
        }

        /**
         * Makes the product at t its second part with the argument, which was checked, in the
         * place of its variable; false if that has too many nodes.
         */
        boolean put(int newArgument, int t) {
            argument = newArgument;
            variable = code.level[t];
            from = t + code.size[t];
            end = from;
            top = -1;
            push(code.second(t), variable);
            for (int steps = 0; steps < MOST_STEPS && top >= 0; steps++) {
                if (at[top] >= stop[top]) {
                    top--;
                } else if (!step(at[top])) {
                    return false;
                }
            }
            if (top >= 0) {
                return false;
            }
            code.measure(from, end);
            code.move(from, t, end - from);
            return true;
        }

        /** A new frame walks over the expression at p, whose nodes begin at this level then. */
        private void push(int p, int level) {
            top++;
            at[top] = p;
            stop[top] = p + code.size[p];
            base[top] = code.level[p];
            shift[top] = level - code.level[p];
        }

        /** Goes on from the node at p; false if there is no room for what that makes. */
        private boolean step(int p) {
            int v = code.head[p] - Code.VARIABLES;
            int level = code.level[p] + shift[top];
            boolean even = top % 2 == 0;
            boolean replaced = even ? v == variable : v >= variable && v < base[top];
            if (replaced ? top + 1 >= MOST_FRAMES : end - from >= MOST_NODES) {
                return false;
            }
            if (!replaced) {
                int head = v < variable ? code.head[p] : code.head[p] + shiftOf(v);
                code.write(end, head, code.arity[p], level);
                end++;
                at[top]++;
                return true;
            }
            at[top] += code.size[p];
            if (even) {
                push(argument + code.arity[p], level);
                call[top] = p;
            } else {
                push(code.argument(call[top], v - variable), level);
            }
            return true;
        }

        /** The shift of a variable: that of the frame which walks over its product or function. */
        private int shiftOf(int v) {
            int frame = top;
            while (frame >= 2 && v < base[frame]) {
                frame -= 2;
            }
            return shift[frame];
        }
    }

    /**
     * Checks kinds, types and objects. Methods call one another as deep as the tokens of the text
     * are open, and the parser refuses more than MOST_OPEN of them.
     */
    private static final class Checker {
        private final Code code;
        private final Constants constants;
        private final Fault fault;
        private final Putter putter;
        // where the types of the variables at hand stand, by their levels
        private final int[] typeOf = new int[MOST_OPEN];
        // the first node that is free for types to be worked on
        int work = 0;

        Checker(Code code, Constants constants, Fault fault) {
            this.code = code;
            this.constants = constants;
            this.fault = fault;
            this.putter = new Putter(code);
        }

        private boolean wrong(int kind, int p) {
            return fault.met(kind, code.where[p]);
        }

        /** Checks a type, or, where this will do too, a kind. */
        private boolean type(int p, boolean kindToo, boolean inFirstPart) {
            switch (code.head[p]) {
                case Code.FUNCTION:
                    return wrong(WRONG_SORT, p);
                case Code.TYPE:
                    return kindToo || wrong(WRONG_SORT, p);
                case Code.PRODUCT:
                    if (inFirstPart && code.head[p + 1] == Code.PRODUCT) {
                        return wrong(TOO_HIGH, p + 1);
                    }
                    if (!type(p + 1, false, true)) {
                        return false;
                    }
                    typeOf[code.level[p]] = p + 1;
                    return type(code.second(p), kindToo, inFirstPart);
                default:
                    return familyApplication(p);
            }
        }

        private boolean familyApplication(int p) {
            int head = code.head[p];
            if (head >= Code.VARIABLES || !constants.isFamily(head)) {
                return wrong(WRONG_SORT, p);
            }
            code.lift(constants.root[head], work, code.level[p]);
            return fit(p, work) && (code.head[work] == Code.TYPE || wrong(MISFIT, p));
        }

        /** Checks what a question asks for; its type stands at work then. */
        boolean question(int p) {
            if (!isObjectHead(code.head[p])) {
                return wrong(WRONG_SORT, p);
            }
            code.lift(headType(p), work, code.level[p]);
            return fit(p, work);
        }

        /** Checks an object against the type that stands at t; nodes from free on are free. */
        private boolean object(int p, int t, int free) {
            if (code.head[p] != Code.FUNCTION) {
                return application(p, t, free);
            }
            if (code.head[t] != Code.PRODUCT) {
                return wrong(MISFIT, p);
            }
            typeOf[code.level[p]] = t + 1;
            return object(p + 1, code.second(t), free);
        }

        private boolean application(int p, int t, int free) {
            if (!isObjectHead(code.head[p])) {
                return wrong(WRONG_SORT, p);
            }
            if (code.head[t] == Code.PRODUCT) {
                return wrong(MISFIT, p);
            }
            code.lift(headType(p), free, code.level[p]);
            if (!fit(p, free)) {
                return false;
            }
            if (code.head[free] == Code.PRODUCT) {
                return wrong(MISFIT, p);
            }
            return code.same(free, t) || wrong(NOT_THE_SAME, p);
        }

        private boolean isObjectHead(int head) {
            return head >= Code.VARIABLES || head >= 0 && !constants.isFamily(head);
        }

        private int headType(int p) {
            int head = code.head[p];
            return head >= Code.VARIABLES ? typeOf[head - Code.VARIABLES] : constants.root[head];
        }

        /**
         * Fits the arguments of the application at p to the kind or type at t, behind which all
         * nodes are free; what it becomes stands there then.
         */
        private boolean fit(int p, int t) {
            int argument = p + 1;
            for (int i = 0; i < code.arity[p]; i++) {
                if (code.head[t] != Code.PRODUCT) {
                    return wrong(MISFIT, argument);
                }
                if (!object(argument, t + 1, t + code.size[t])) {
                    return false;
                }
                if (!putter.put(argument, t)) {
                    return wrong(TOO_LARGE, argument);
                }
                argument += code.size[argument];
            }
            return true;
        }
    }

    /** What was printed. */
    private static final class Paper {
        private final byte[] bytes = new byte[MOST_PAPER];
        int length = 0;
        boolean overrun = false;

        long at(long i) {
            return i < 0 || i >= length ? 0 : bytes[(int) i] & 255;
        }

        void add(int b) {
            if (length >= MOST_PAPER) {
                overrun = true;
                return;
            }
            bytes[length] = (byte) b;
            length++;
        }
    }

    /** Prints types node by node; what closes a part is kept until the part's end comes. */
    private static final class Printer {
        private final Code code;
        private final Constants constants;
        private final Paper paper;
        private final boolean[] isArgument = new boolean[MOST_NODES];
        private final int[] closeAt = new int[2 * MOST_NODES];
        private final int[] closeWith = new int[2 * MOST_NODES];
        private int closing = 0;
        private int root = 0;

        Printer(Code code, Constants constants, Paper paper) {
            this.code = code;
            this.constants = constants;
            this.paper = paper;
        }

        /** Prints the expression at p; false, and nothing of it, if the paper has no room. */
        boolean print(int p) {
            int before = paper.length;
            int end = p + code.size[p];
            root = p;
            closing = 0;
            paper.overrun = false;
            for (int q = p; q < end; q++) {
                close(q);
                markParts(q);
                node(q);
            }
            close(end);
            paper.add('\n');
            if (paper.overrun) {
                paper.length = before;
                return false;
            }
            return true;
        }

        private void markParts(int p) {
            int part = p + 1;
            for (int i = 0; i < code.arity[p]; i++) {
                isArgument[part - root] = code.head[p] >= 0;
                part += code.size[part];
            }
        }

        private void closeLater(int end, int b) {
            closeAt[closing] = end;
            closeWith[closing] = b;
            closing++;
        }

        private void close(int p) {
            while (closing > 0 && closeAt[closing - 1] == p) {
                closing--;
                paper.add(closeWith[closing]);
            }
        }

        private void node(int p) {
            if (isArgument[p - root]) {
                paper.add(' ');
                if (code.head[p] < 0 || code.arity[p] > 0) {
                    paper.add('(');
                    closeLater(p + code.size[p], ')');
                }
            }
            switch (code.head[p]) {
                case Code.TYPE:
                    word("type");
                    break;
                case Code.PRODUCT:
                    paper.add('{');
                    variable(code.level[p]);
                    paper.add(':');
                    closeLater(code.second(p), '}');
                    break;
                case Code.FUNCTION:
                    paper.add('[');
                    variable(code.level[p]);
                    paper.add(']');
                    break;
                default:
                    head(code.head[p]);
            }
        }

        private void head(int head) {
            if (head >= Code.VARIABLES) {
                variable(head - Code.VARIABLES);
                return;
            }
            bytesOf(constants.front[head]);
            bytesOf(constants.back[head]);
        }

        private void bytesOf(long name) {
            for (int i = 0; i < 8 && name >>> (8 * i) != 0; i++) {
                paper.add((int) (name >>> (8 * i)) & 255);
            }
        }

        private void word(String s) {
            for (int i = 0; i < s.length(); i++) {
                paper.add(s.charAt(i));
            }
        }

        private void variable(int level) {
            paper.add('x');
            if (level >= 100) {
                paper.add('0' + level / 100 % 10);
            }
            if (level >= 10) {
                paper.add('0' + level / 10 % 10);
            }
            paper.add('0' + level % 10);
        }
    }
}
