/** A ledger of contracts that are told by bytes, checked by types before they are kept, and called within bounds. */
public final class PactLedger {
    public static final int NONE = -1;

    private static final int MOST_BYTES = 240;
    private static final int MOST_PUT = 8;
    private static final int MOST_NODES = 100;
    private static final int MOST_NODE_DEPTH = 9;
    private static final int MOST_IN_ROW = 40;
    private static final int MOST_IN_TEXT = 8;
    private static final int LEAST_CHARACTER = 32;
    private static final int MOST_CHARACTER = 126;
    private static final int SCRIPT_NODES = 5;
    private static final int MOST_CONTRACTS = 4;
    private static final int MOST_BITS = 120;
    private static final int MOST_COST = 150;
    private static final int MOST_ON_STACK = 12;
    private static final int MOST_TYPE_DEPTH = 7;
    private static final int MOST_STACK_TYPE_DEPTH = 8;
    // A FAIL with pairs 8 deep: 128 numbers of 19 bytes, 127 words of 2 bytes. Results have at most 100 nodes.
    private static final int MOST_OUTPUT = 2686;

    // Kinds of nodes; a word's first byte is WORD and how many parts it has.
    private static final int NUMBER = 0;
    private static final int TEXT = 1;
    private static final int ROW = 2;
    private static final int WORD = 4;
    private static final int MOST_PARTS = 3;

    // A number's bytes.
    private static final int MORE = 128;
    private static final int SIGN = 64;
    private static final int FIRST_BITS = 6;
    private static final int NEXT_BITS = 7;

    // Types.
    private static final int T_UNIT = 0;
    private static final int T_BOOL = 1;
    private static final int T_INT = 2;
    private static final int T_NAT = 3;
    private static final int T_TEXT = 4;
    private static final int T_PAIR = 5;
    private static final int T_OPTION = 6;
    private static final int T_OR = 7;
    private static final int T_LIST = 8;
    private static final int T_MAP = 9;
    private static final int T_BIG = 10;
    private static final int[] TYPE_PARTS = {0, 0, 0, 0, 0, 2, 1, 2, 1, 2, 2};

    // Where a type stands, which tells whether it may be a BIG.
    private static final int PLAIN = 0;
    private static final int STORAGE = 1;
    private static final int STORAGE_FIRST = 2;

    // Words of values.
    private static final int V_UNIT = 20;
    private static final int V_FALSE = 21;
    private static final int V_TRUE = 22;
    private static final int V_PAIR = 23;
    private static final int V_NONE = 24;
    private static final int V_SOME = 25;
    private static final int V_LEFT = 26;
    private static final int V_RIGHT = 27;
    private static final int V_ENTRY = 28;

    // Instructions.
    private static final int DROP = 30;
    private static final int DUP = 31;
    private static final int SWAP = 32;
    private static final int DIP = 33;
    private static final int PUSH = 34;
    private static final int UNIT = 35;
    private static final int PAIR = 36;
    private static final int CAR = 37;
    private static final int CDR = 38;
    private static final int SOME = 39;
    private static final int NOTHING = 40;
    private static final int IFNONE = 41;
    private static final int LEFT = 42;
    private static final int RIGHT = 43;
    private static final int IFLEFT = 44;
    private static final int NIL = 45;
    private static final int CONS = 46;
    private static final int IFCONS = 47;
    private static final int SIZE = 48;
    private static final int ITER = 49;
    private static final int MAP = 50;
    private static final int EMPTY = 51;
    private static final int GET = 52;
    private static final int UPDATE = 53;
    private static final int MEM = 54;
    private static final int AND = 55;
    private static final int OR = 56;
    private static final int NOT = 57;
    private static final int IF = 58;
    private static final int LOOP = 59;
    private static final int ADD = 60;
    private static final int SUB = 61;
    private static final int MUL = 62;
    private static final int EDIV = 63;
    private static final int NEG = 64;
    private static final int ABS = 65;
    private static final int ISNAT = 66;
    private static final int INT = 67;
    private static final int COMPARE = 68;
    private static final int EQ = 69;
    private static final int NE = 70;
    private static final int LT = 71;
    private static final int GT = 72;
    private static final int LE = 73;
    private static final int GE = 74;
    private static final int CONCAT = 75;
    private static final int FAIL = 76;
    // How many parts the instructions from DROP to FAIL have.
    private static final int[] INSTRUCTION_PARTS = {
        0, 0, 0, 1, 2, 0, 0, 0, 0, 0, 1, 2, 1, 1, 2, 1,
        0, 2, 0, 1, 1, 2, 0, 0, 0, 0, 0, 0, 2, 1, 0, 0,
        0, 0, 0, 0, 0, 0, 0, 0, 0, 0, 0, 0, 0, 0, 0
    };

    // What about() and count() are asked for.
    private static final int ABOUT_STEPS = 0;
    private static final int ABOUT_DEEPEST = 1;
    private static final int ABOUT_CALLS = 2;
    private static final int ABOUT_SPENT = 3;
    private static final int ABOUT_KEYS = 4;
    private static final int ABOUT_NODES = 5;
    private static final int COUNT_CONTRACTS = 0;
    private static final int COUNT_BUFFER = 1;
    private static final int COUNT_OUTPUT = 2;

    private final Buffer buffer;
    private final Output output;
    private final Contract[] contracts;
    private int contractCount;

    public PactLedger() {
        buffer = new Buffer();
        output = new Output();
        contracts = new Contract[MOST_CONTRACTS];
        contractCount = 0;
    }

    public int put(long word, int n) throws IllegalArgumentException, IllegalStateException {
        if (n < 1 || n > MOST_PUT) {
            throw new IllegalArgumentException();
        }
        if (buffer.length + n > MOST_BYTES) {
            throw new IllegalStateException();
        }
        buffer.append(word, n);
        return buffer.length;
    }

    public int deploy() throws IllegalStateException, IllegalArgumentException, UnsupportedOperationException {
        if (contractCount >= contracts.length) {
            buffer.clear();
            throw new IllegalStateException();
        }
        Node script = buffer.read(SCRIPT_NODES);
        Checker checker = new Checker(buffer);
        Type parameter = checker.type(script.part(0), PLAIN);
        Type result = checker.type(script.part(1), PLAIN);
        Type storage = checker.type(script.part(2), STORAGE);
        Node code = script.part(3);
        Node first = script.part(4);
        Step[] steps = new Step[code.rowSize()];
        Stack left = checker.block(code, steps, Stack.of(Type.pair(parameter, storage)), 0);
        checker.require(left.failed() || Stack.same(left, Stack.of(Type.pair(result, storage))), code.place);
        int misfit = storage.misfit(first);
        checker.require(misfit == NONE, misfit);
        Contract contract = new Contract(parameter, storage, steps, first.value);
        contract.steps = checker.steps;
        contract.deepest = checker.deepest;
        contracts[contractCount] = contract;
        contractCount = contractCount + 1;
        return contractCount - 1;
    }

    public int wrong() {
        return buffer.wrong;
    }

    public int call(int c, int bits, int cost)
            throws IllegalArgumentException, IllegalStateException, ArithmeticException, UnsupportedOperationException {
        output.clear();
        Contract contract = contractAt(c);
        if (contract == null || bits < 1 || bits > MOST_BITS || cost < 1 || cost > MOST_COST) {
            buffer.clear();
            throw new IllegalArgumentException();
        }
        Value parameter = buffer.fitting(buffer.read(1).part(0), contract.parameter);
        Machine machine = new Machine(output, bits, cost);
        machine.push(Value.word(V_PAIR, parameter, contract.stored));
        machine.block(contract.code);
        Value left = machine.pop();
        if (left.first().nodes(MOST_NODES) > MOST_NODES || left.second().nodes(MOST_NODES) > MOST_NODES) {
            throw new ArithmeticException();
        }
        contract.stored = left.second();
        contract.calls = contract.calls + 1;
        contract.spent = contract.spent + machine.paid;
        output.write(left.first());
        return machine.paid;
    }

    public int storage(int c) throws IllegalArgumentException {
        Contract contract = contractAt(c);
        if (contract == null) {
            throw new IllegalArgumentException();
        }
        output.clear();
        output.write(contract.shown());
        return output.length;
    }

    public int find(int c) throws IllegalArgumentException {
        Contract contract = contractAt(c);
        if (contract == null || !contract.hasBig()) {
            buffer.clear();
            throw new IllegalArgumentException();
        }
        Value key = buffer.fitting(buffer.read(1).part(0), contract.keyType());
        output.clear();
        output.write(contract.big().got(key));
        return output.length;
    }

    public int octet(int i) {
        return output.at(i);
    }

    public int about(int c, int what) {
        Contract contract = contractAt(c);
        if (contract == null) {
            return NONE;
        }
        switch (what) {
            case ABOUT_STEPS:
                return contract.steps;
            case ABOUT_DEEPEST:
                return contract.deepest;
            case ABOUT_CALLS:
                return contract.calls;
            case ABOUT_SPENT:
                return contract.spent;
            case ABOUT_KEYS:
                return contract.hasBig() ? contract.big().size : NONE;
            case ABOUT_NODES:
                return contract.stored.nodes(MOST_NODES);
            default:
                return NONE;
        }
    }

    public int count(int what) {
        switch (what) {
            case COUNT_CONTRACTS:
                return contractCount;
            case COUNT_BUFFER:
                return buffer.length;
            case COUNT_OUTPUT:
                return output.length;
            default:
                return NONE;
        }
    }

    private Contract contractAt(int c) {
        return c < 0 || c >= contractCount || c >= contracts.length ? null : contracts[c];
    }

    /** The bytes that were put, and the reading of nodes from them. */
    private static final class Buffer {
        private final byte[] bytes = new byte[MOST_BYTES];
        private final Node[] noParts = new Node[0];
        private int length = 0;
        private int wrong = NONE;
        // These tell of the reading: how many bytes there are, the next one's place, how many nodes there were.
        private int end = 0;
        private int place = 0;
        private int nodes = 0;

        void append(long word, int n) {
            for (int i = n - 1; i >= 0 && length < bytes.length; i--) {
                bytes[length] = (byte) (word >>> (8 * i));
                length = length + 1;
            }
        }

        void clear() {
            length = 0;
        }

        /** A row of the n nodes that the buffer must hold; the buffer is empty then in any case. */
        Node read(int n) {
            end = length;
            length = 0;
            wrong = NONE;
            place = 0;
            nodes = 0;
            Node all = new Node(0, ROW, 0, parts(n, 1), Value.emptyRow());
            require(place == end, place);
            return all;
        }

        /** The value that a node of the buffer is, if it is one of the type. */
        Value fitting(Node node, Type type) {
            int misfit = type.misfit(node);
            require(misfit == NONE, misfit);
            return node.value;
        }

        private Node[] parts(int n, int depth) {
            Node[] parts = new Node[n];
            for (int i = 0; i < n; i++) {
                parts[i] = node(depth);
            }
            return parts;
        }

        private Node node(int depth) {
            int start = place;
            int kind = next();
            require(depth <= MOST_NODE_DEPTH && nodes < MOST_NODES, start);
            nodes = nodes + 1;
            if (kind == NUMBER) {
                return new Node(start, kind, 0, noParts, number());
            }
            if (kind == TEXT) {
                return new Node(start, kind, 0, noParts, text(upTo(MOST_IN_TEXT)));
            }
            if (kind == ROW) {
                Node[] parts = parts(upTo(MOST_IN_ROW), depth + 1);
                return new Node(start, kind, 0, parts, Node.rowValue(parts));
            }
            require(kind >= WORD && kind <= WORD + MOST_PARTS, start);
            int code = next();
            Node[] parts = kind == WORD ? noParts : parts(kind - WORD, depth + 1);
            return new Node(start, WORD, code, parts, Node.wordValue(code, parts));
        }

        private Value number() {
            int octet = next();
            require(octet != SIGN, place - 1);
            boolean below = (octet & SIGN) != 0;
            long high = 0;
            long low = octet & (SIGN - 1);
            int shift = FIRST_BITS;
            for (int i = 0; i < MOST_BYTES && octet >= MORE; i++) {
                octet = next();
                int seven = octet & (MORE - 1);
                require(octet != 0 && Num.hasRoom(seven, shift), place - 1);
                high = high | Num.highPart(seven, shift);
                low = low | Num.lowPart(seven, shift);
                shift = shift + NEXT_BITS;
            }
            return Value.number(new Num(below, high, low));
        }

        private Value text(int n) {
            long text = 0;
            for (int i = 0; i < n; i++) {
                int octet = next();
                require(octet >= LEAST_CHARACTER && octet <= MOST_CHARACTER, place - 1);
                text = text | (long) octet << (8 * (MOST_IN_TEXT - 1 - i));
            }
            return Value.text(text, n);
        }

        private int upTo(int most) {
            int n = next();
            require(n <= most, place - 1);
            return n;
        }

        private int next() {
            require(place < end && place < bytes.length, end);
            int octet = bytes[place] & 255;
            place = place + 1;
            return octet;
        }

        private void require(boolean right, int where) {
            if (!right) {
                wrong = where;
                throw new IllegalArgumentException();
            }
        }
    }

    /** What was read at a place of the buffer, with the value that it is if its type says so. */
    private static final class Node {
        private final int place;
        private final int kind;
        private final int code;
        private final Node[] parts;
        private final Value value;

        Node(int place, int kind, int code, Node[] parts, Value value) {
            this.place = place;
            this.kind = kind;
            this.code = code;
            this.parts = parts;
            this.value = value;
        }

        static Value rowValue(Node[] parts) {
            Value[] items = new Value[parts.length];
            for (int i = 0; i < parts.length; i++) {
                items[i] = parts[i].value;
            }
            return Value.row(items);
        }

        static Value wordValue(int code, Node[] parts) {
            Value first = parts.length > 0 ? parts[0].value : null;
            Value second = parts.length > 1 ? parts[1].value : null;
            return Value.word(code, first, second);
        }

        /** Part i, or the node itself where there is none, so that no caller holds a null. */
        Node part(int i) {
            return i < 0 || i >= parts.length || parts[i] == null ? this : parts[i];
        }

        boolean isWord(int wanted, int n) {
            return kind == WORD && code == wanted && parts.length == n;
        }

        boolean isInstruction() {
            return kind == WORD && code >= DROP && code <= FAIL && code - DROP < INSTRUCTION_PARTS.length
                && parts.length == INSTRUCTION_PARTS[code - DROP];
        }

        boolean isType() {
            return kind == WORD && code >= 0 && code < TYPE_PARTS.length && parts.length == TYPE_PARTS[code];
        }

        int rowSize() {
            return kind == ROW ? parts.length : 0;
        }
    }

    /** A number: its sign, and without it high times 2 to the 60th and low, both below 2 to the 60th. */
    private static final class Num {
        private static final int HALF = 60;
        private static final long HALF_MASK = (1L << HALF) - 1;
        private static final int LIMB = 30;
        private static final long LIMB_MASK = (1L << LIMB) - 1;

        private final boolean below;
        private final long high;
        private final long low;

        Num(boolean below, long high, long low) {
            this.below = below && (high != 0 || low != 0);
            this.high = high;
            this.low = low;
        }

        static Num of(int n) {
            return new Num(n < 0, 0, n < 0 ? -(long) n : n);
        }

        /** Whether these seven bits, so many places up, stay below 2 to the 120th. */
        static boolean hasRoom(int seven, int shift) {
            int room = Math.max(0, MOST_BITS - shift);
            return room >= NEXT_BITS || seven >> room == 0;
        }

        static long highPart(int seven, int shift) {
            if (shift >= MOST_BITS) {
                return 0;
            }
            return shift >= HALF ? (long) seven << (shift - HALF) : (long) seven >> (HALF - shift);
        }

        static long lowPart(int seven, int shift) {
            return shift >= HALF ? 0 : (long) seven << shift & HALF_MASK;
        }

        boolean isZero() {
            return high == 0 && low == 0;
        }

        /** Whether without its sign it is below 2 to the power of bits. */
        boolean fits(int bits) {
            return bits >= HALF ? high < 1L << (bits - HALF) : high == 0 && low < 1L << bits;
        }

        Num negated() {
            return new Num(!below, high, low);
        }

        Num unsigned() {
            return new Num(false, high, low);
        }

        int sign() {
            return below ? -1 : isZero() ? 0 : 1;
        }

        static int order(Num x, Num y) {
            if (x.below != y.below) {
                return x.below ? -1 : 1;
            }
            if (x.high == y.high && x.low == y.low) {
                return 0;
            }
            boolean less = x.high < y.high || x.high == y.high && x.low < y.low;
            return less != x.below ? -1 : 1;
        }

        static Num sum(Num x, Num y) {
            if (x.below == y.below) {
                long low = x.low + y.low;
                return new Num(x.below, x.high + y.high + (low >> HALF), low & HALF_MASK);
            }
            boolean less = x.high < y.high || x.high == y.high && x.low < y.low;
            return less ? lessened(y, x) : lessened(x, y);
        }

        /** The greater one lessened by the less one, their signs aside; it keeps the sign of the greater one. */
        private static Num lessened(Num greater, Num less) {
            long low = greater.low - less.low;
            return new Num(greater.below, greater.high - less.high + (low >> HALF), low & HALF_MASK);
        }

        /** The product; where it is not below 2 to the 120th, some number that is not so either. */
        static Num product(Num x, Num y) {
            long x0 = x.low & LIMB_MASK;
            long x1 = x.low >> LIMB;
            long x2 = x.high & LIMB_MASK;
            long x3 = x.high >> LIMB;
            long y0 = y.low & LIMB_MASK;
            long y1 = y.low >> LIMB;
            long y2 = y.high & LIMB_MASK;
            long y3 = y.high >> LIMB;
            long c0 = x0 * y0;
            long c1 = x0 * y1 + x1 * y0 + (c0 >> LIMB);
            long c2 = x0 * y2 + x1 * y1 + x2 * y0 + (c1 >> LIMB);
            long c3 = x0 * y3 + x1 * y2 + x2 * y1 + x3 * y0 + (c2 >> LIMB);
            boolean above = x1 * y3 + x2 * y2 + x3 * y1 != 0 || x2 * y3 + x3 * y2 != 0 || x3 * y3 != 0;
            boolean below = x.below != y.below;
            if (above || c3 >> LIMB != 0) {
                return new Num(below, 1L << HALF, 0);
            }
            return new Num(below, c3 << LIMB | c2 & LIMB_MASK, (c1 & LIMB_MASK) << LIMB | c0 & LIMB_MASK);
        }

        /** The q and the r, not below 0, with x = q * y + r; y is not 0. */
        static Num[] divided(Num x, Num y) {
            Num[] parts = dividedUnsigned(x, y);
            Num q = parts[0];
            Num r = parts[1];
            if (x.below && !r.isZero()) {
                // Behind 0 the next multiple of y is the one below x.
                q = sum(q, of(1));
                r = lessened(y.unsigned(), r);
            }
            parts[0] = x.below != y.below ? q.negated() : q;
            parts[1] = r;
            return parts;
        }

        private static Num[] dividedUnsigned(Num x, Num y) {
            long qHigh = 0;
            long qLow = 0;
            long rHigh = 0;
            long rLow = 0;
            for (int i = MOST_BITS - 1; i >= 0; i--) {
                long bit = (i >= HALF ? x.high >> (i - HALF) : x.low >> i) & 1;
                rHigh = rHigh << 1 | rLow >> (HALF - 1);
                rLow = rLow << 1 & HALF_MASK | bit;
                qHigh = qHigh << 1 | qLow >> (HALF - 1);
                qLow = qLow << 1 & HALF_MASK;
                if (rHigh > y.high || rHigh == y.high && rLow >= y.low) {
                    rLow = rLow - y.low;
                    rHigh = rHigh - y.high + (rLow >> HALF);
                    rLow = rLow & HALF_MASK;
                    qLow = qLow | 1;
                }
            }
            Num[] parts = new Num[2];
            parts[0] = new Num(false, qHigh, qLow);
            parts[1] = new Num(false, rHigh, rLow);
            return parts;
        }
    }

    /** A value, which never changes: a number, a text, a row (a list, or a map by ascending keys), or a word. */
    private static final class Value {
        // NUMBER, TEXT, ROW, or the code of a word.
        private final int kind;
        // How many characters a text has, or elements a row.
        private final int size;
        // A text's characters from the highest byte on, 0 behind them: as numbers they are in the order of texts.
        private final long text;
        private final Num number;
        // The parts of a word.
        private final Value first;
        private final Value second;
        // The elements of a row; a map's are entries. An array takes less room than a chain when a map is updated.
        private final Value[] items;

        private Value(int kind, int size, long text, Num number, Value first, Value second, Value[] items) {
            this.kind = kind;
            this.size = size;
            this.text = text;
            this.number = number;
            this.first = first;
            this.second = second;
            this.items = items;
        }

        static Value number(Num number) {
            return new Value(NUMBER, 0, 0, number, null, null, null);
        }

        static Value text(long text, int size) {
            return new Value(TEXT, size, text, null, null, null, null);
        }

        /** A row of these; nobody changes the array any more. */
        static Value row(Value[] items) {
            return new Value(ROW, items.length, 0, null, null, null, items);
        }

        static Value emptyRow() {
            return row(new Value[0]);
        }

        static Value word(int code, Value first, Value second) {
            return new Value(code, 0, 0, null, first, second, null);
        }

        static Value truth(boolean truth) {
            return word(truth ? V_TRUE : V_FALSE, null, null);
        }

        static Value none() {
            return word(V_NONE, null, null);
        }

        static Value some(Value value) {
            return word(V_SOME, value, null);
        }

        /** The first part, or the value itself where there is none, so that no caller holds a null. */
        Value first() {
            return first == null ? this : first;
        }

        Value second() {
            return second == null ? this : second;
        }

        Value item(int i) {
            return items == null || i < 0 || i >= items.length || items[i] == null ? this : items[i];
        }

        Num number() {
            return number == null ? Num.of(0) : number;
        }

        boolean isBelowZero() {
            return number != null && number.below;
        }

        boolean isTrue() {
            return kind == V_TRUE;
        }

        /** The order of two simple values of one type: -1, 0 or 1. Types keep pairs at most 8 deep. */
        static int order(Value x, Value y) {
            if (x.kind == V_PAIR) {
                int firsts = order(x.first(), y.first());
                return firsts != 0 ? firsts : order(x.second(), y.second());
            }
            if (x.number != null && y.number != null) {
                return Num.order(x.number, y.number);
            }
            return x.kind == TEXT ? Long.compare(x.text, y.text) : Integer.compare(x.kind, y.kind);
        }

        /** How many nodes it has; more than most, whatever number, when they or those in a row are too many. */
        int nodes(int most) {
            if (kind == ROW) {
                return rowNodes(most);
            }
            int n = 1;
            if (first != null && n <= most) {
                n = n + first.nodes(most - n);
            }
            if (second != null && n <= most) {
                n = n + second.nodes(most - n);
            }
            return n;
        }

        private int rowNodes(int most) {
            if (size > MOST_IN_ROW) {
                return most + 1;
            }
            int n = 1;
            for (int i = 0; i < size && n <= most; i++) {
                n = n + item(i).nodes(most - n);
            }
            return n;
        }

        /** The row with one more in front. */
        Value with(Value head) {
            Value[] all = new Value[size + 1];
            all[0] = head;
            for (int i = 0; i < size; i++) {
                all[i + 1] = item(i);
            }
            return row(all);
        }

        /** The row without its first element. */
        Value rest() {
            Value[] all = new Value[Math.max(0, size - 1)];
            for (int i = 0; i < all.length; i++) {
                all[i] = item(i + 1);
            }
            return row(all);
        }

        /** How many of a map's keys are below this one. */
        private int keysBelow(Value key) {
            int n = 0;
            while (n < size && order(item(n).first(), key) < 0) {
                n = n + 1;
            }
            return n;
        }

        private boolean hasKeyAt(int i, Value key) {
            return i < size && order(item(i).first(), key) == 0;
        }

        boolean has(Value key) {
            return hasKeyAt(keysBelow(key), key);
        }

        /** The option of what a map has for the key. */
        Value got(Value key) {
            int at = keysBelow(key);
            return hasKeyAt(at, key) ? some(item(at).second()) : none();
        }

        /** The map with what the option holds for the key, or without the key. */
        Value updated(Value key, Value option) {
            int at = keysBelow(key);
            int old = hasKeyAt(at, key) ? 1 : 0;
            int added = option.kind == V_SOME ? 1 : 0;
            if (old == 0 && added == 0) {
                return this;
            }
            Value[] all = new Value[Math.max(0, size - old + added)];
            for (int i = 0; i < all.length; i++) {
                all[i] = i < at ? item(i) : item(i + old - added);
            }
            if (added == 1 && at < all.length) {
                all[at] = word(V_ENTRY, key, option.first());
            }
            return row(all);
        }
    }

    /** A type, which never changes. */
    private static final class Type {
        private final int code;
        private final Type first;
        private final Type second;
        private final int depth;
        private final boolean simple;

        Type(int code, Type first, Type second) {
            this.code = code;
            this.first = first;
            this.second = second;
            depth = 1 + Math.max(first == null ? 0 : first.depth, second == null ? 0 : second.depth);
            simple = code >= T_BOOL && code <= T_TEXT
                || code == T_PAIR && first != null && first.simple && second != null && second.simple;
        }

        static Type of(int code) {
            return new Type(code, null, null);
        }

        static Type of(int code, Type first) {
            return new Type(code, first, null);
        }

        static Type pair(Type first, Type second) {
            return new Type(T_PAIR, first, second);
        }

        /** The first part, or the type itself where there is none, so that no caller holds a null. */
        Type first() {
            return first == null ? this : first;
        }

        Type second() {
            return second == null ? this : second;
        }

        boolean isNumber() {
            return code == T_INT || code == T_NAT;
        }

        boolean isMap() {
            return code == T_MAP || code == T_BIG;
        }

        /** Types on a stack are at most 8 deep, one that is refused 9. */
        static boolean same(Type x, Type y) {
            if (x == null || y == null) {
                return x == y;
            }
            return x.code == y.code && same(x.first, y.first) && same(x.second, y.second);
        }

        /** The place of the first node that keeps this one from being a value of the type, or NONE. */
        int misfit(Node node) {
            if (code == T_LIST) {
                return listMisfit(node);
            }
            if (isMap()) {
                return mapMisfit(node);
            }
            if (!begins(node)) {
                return node.place;
            }
            if (code == T_PAIR) {
                int misfit = first().misfit(node.part(0));
                return misfit != NONE ? misfit : second().misfit(node.part(1));
            }
            if (node.parts.length == 0) {
                return NONE;
            }
            return node.code == V_RIGHT ? second().misfit(node.part(0)) : first().misfit(node.part(0));
        }

        /** Whether the node, its parts aside, can be a value of the type, which is no list or map. */
        private boolean begins(Node node) {
            switch (code) {
                case T_UNIT:
                    return node.isWord(V_UNIT, 0);
                case T_BOOL:
                    return node.isWord(V_FALSE, 0) || node.isWord(V_TRUE, 0);
                case T_INT:
                    return node.kind == NUMBER;
                case T_NAT:
                    return node.kind == NUMBER && !node.value.isBelowZero();
                case T_TEXT:
                    return node.kind == TEXT;
                case T_PAIR:
                    return node.isWord(V_PAIR, 2);
                case T_OPTION:
                    return node.isWord(V_NONE, 0) || node.isWord(V_SOME, 1);
                default:
                    return node.isWord(V_LEFT, 1) || node.isWord(V_RIGHT, 1);
            }
        }

        private int listMisfit(Node node) {
            if (node.kind != ROW) {
                return node.place;
            }
            int misfit = NONE;
            for (int i = 0; i < node.parts.length && misfit == NONE; i++) {
                misfit = first().misfit(node.part(i));
            }
            return misfit;
        }

        private int mapMisfit(Node node) {
            if (node.kind != ROW) {
                return node.place;
            }
            Value keyBefore = null;
            for (int i = 0; i < node.parts.length; i++) {
                Node entry = node.part(i);
                if (!entry.isWord(V_ENTRY, 2)) {
                    return entry.place;
                }
                Node key = entry.part(0);
                int misfit = first().misfit(key);
                if (misfit == NONE && keyBefore != null && Value.order(keyBefore, key.value) >= 0) {
                    misfit = key.place;
                }
                if (misfit == NONE) {
                    misfit = second().misfit(entry.part(1));
                }
                if (misfit != NONE) {
                    return misfit;
                }
                keyBefore = key.value;
            }
            return NONE;
        }
    }

    /** A stack of types, which never changes: the top one and the stack below it, or one that FAILED. */
    private static final class Stack {
        private static final int FAILED_SIZE = -1;

        private final int size;
        private final Type top;
        private final Stack below;

        private Stack(int size, Type top, Stack below) {
            this.size = size;
            this.top = top;
            this.below = below;
        }

        static Stack of(Type type) {
            return new Stack(0, null, null).with(type);
        }

        static Stack ofFailed() {
            return new Stack(FAILED_SIZE, null, null);
        }

        boolean failed() {
            return size == FAILED_SIZE;
        }

        Stack with(Type type) {
            return new Stack(size + 1, type, this);
        }

        /** The stack without its n top ones. */
        Stack drop(int n) {
            Stack rest = this;
            for (int i = 0; i < n && rest.below != null; i++) {
                rest = rest.below;
            }
            return rest;
        }

        /** The type that has i above it; where there is none a UNIT, so that no caller holds a null. */
        Type at(int i) {
            Type type = drop(i).top;
            return i >= size || type == null ? new Type(T_UNIT, null, null) : type;
        }

        /** Whether the type that has i above it is there and has this code. */
        boolean has(int i, int code) {
            return i < size && at(i).code == code;
        }

        static boolean same(Stack x, Stack y) {
            boolean same = x.size == y.size;
            for (int i = 0; i < x.size && same; i++) {
                same = Type.same(x.at(i), y.at(i));
            }
            return same;
        }
    }

    /** An instruction that was checked. */
    private static final class Step {
        private final int code;
        // Whether a BIG is what it works on: its UPDATE costs less.
        private final boolean big;
        private final Value constant;
        private final Step[] first;
        private final Step[] second;

        Step(Node node, boolean big) {
            this.code = node.code;
            this.big = big;
            constant = node.part(1).value;
            first = new Step[node.part(0).rowSize()];
            second = new Step[node.part(1).rowSize()];
        }
    }

    /** THE CHECK of a script. */
    private static final class Checker {
        private final Buffer buffer;
        private int steps = 0;
        private int deepest = 0;

        Checker(Buffer buffer) {
            this.buffer = buffer;
        }

        void require(boolean right, int where) {
            if (!right) {
                buffer.wrong = where;
                throw new UnsupportedOperationException();
            }
        }

        /** The type that a node tells; nodes are at most 9 deep, and so are the types that it may look at. */
        Type type(Node node, int where) {
            require(node.isType() && (node.code != T_BIG || where == STORAGE_FIRST), node.place);
            Type first = null;
            Type second = null;
            if (node.parts.length > 0) {
                first = type(node.part(0), where == STORAGE && node.code == T_PAIR ? STORAGE_FIRST : PLAIN);
                require(first.simple || node.code != T_MAP && node.code != T_BIG, node.part(0).place);
            }
            if (node.parts.length > 1) {
                second = type(node.part(1), PLAIN);
            }
            Type type = new Type(node.code, first, second);
            require(type.depth <= MOST_TYPE_DEPTH, node.place);
            return type;
        }

        /** What the code of a row leaves of a stack; its steps go into the array, which is as long as the row. */
        Stack block(Node row, Step[] into, Stack stack, int held) {
            require(row.kind == ROW, row.place);
            Stack now = stack;
            deepest = Math.max(deepest, now.size + held);
            for (int i = 0; i < row.parts.length && i < into.length; i++) {
                Node node = row.part(i);
                require(!now.failed() && node.isInstruction() && isReady(node.code, now, held), node.place);
                Step step = new Step(node, now.has(2, T_BIG));
                into[i] = step;
                steps = steps + 1;
                now = after(node, step, now, held);
                require(now.size + held <= MOST_ON_STACK && now.at(0).depth <= MOST_STACK_TYPE_DEPTH, node.place);
                deepest = Math.max(deepest, now.size + held);
            }
            return now;
        }

        private boolean isReady(int code, Stack stack, int held) {
            switch (code) {
                case PUSH:
                case UNIT:
                case NOTHING:
                case NIL:
                case EMPTY:
                    return true;
                case DROP:
                case DUP:
                case DIP:
                case SOME:
                case LEFT:
                case RIGHT:
                    return stack.size >= 1;
                case SWAP:
                case PAIR:
                    return stack.size >= 2;
                case CAR:
                case CDR:
                    return stack.has(0, T_PAIR);
                case IFNONE:
                    return stack.has(0, T_OPTION);
                case IFLEFT:
                    return stack.has(0, T_OR);
                case IFCONS:
                    return stack.has(0, T_LIST) && stack.size + held < MOST_ON_STACK;
                case MAP:
                    return stack.has(0, T_LIST);
                case ITER:
                    return stack.has(0, T_LIST) || stack.has(0, T_MAP);
                case SIZE:
                    return stack.has(0, T_LIST) || stack.has(0, T_MAP) || stack.has(0, T_TEXT);
                case CONS:
                    return stack.has(1, T_LIST) && Type.same(stack.at(1).first(), stack.at(0));
                case GET:
                case MEM:
                    return stack.at(1).isMap() && Type.same(stack.at(1).first(), stack.at(0));
                case UPDATE:
                    return isReadyToUpdate(stack);
                default:
                    return isReadyForSimple(code, stack);
            }
        }

        private boolean isReadyToUpdate(Stack stack) {
            Type map = stack.at(2);
            return map.isMap() && Type.same(map.first(), stack.at(0))
                && stack.has(1, T_OPTION) && Type.same(map.second(), stack.at(1).first());
        }

        private boolean isReadyForSimple(int code, Stack stack) {
            switch (code) {
                case AND:
                case OR:
                    return stack.has(0, T_BOOL) && stack.has(1, T_BOOL);
                case NOT:
                case IF:
                case LOOP:
                    return stack.has(0, T_BOOL);
                case ADD:
                case SUB:
                case MUL:
                case EDIV:
                    return stack.at(0).isNumber() && stack.at(1).isNumber();
                case NEG:
                    return stack.at(0).isNumber();
                case INT:
                    return stack.has(0, T_NAT);
                case COMPARE:
                    return stack.at(0).simple && Type.same(stack.at(0), stack.at(1));
                case CONCAT:
                    return stack.has(0, T_TEXT) && stack.has(1, T_TEXT);
                case FAIL:
                    return stack.at(0).simple || stack.has(0, T_UNIT);
                default:
                    // ABS, ISNAT, and EQ to GE.
                    return stack.has(0, T_INT);
            }
        }

        private Stack after(Node node, Step step, Stack stack, int held) {
            switch (node.code) {
                case DIP:
                    Stack left = block(node.part(0), step.first, stack.drop(1), held + 1);
                    require(!left.failed(), node.place);
                    return left.with(stack.at(0));
                case IF:
                case IFNONE:
                case IFLEFT:
                case IFCONS:
                    return afterEither(node, step, stack, held);
                case ITER:
                case MAP:
                case LOOP:
                    return afterRepeated(node, step, stack, held);
                case PUSH:
                case NOTHING:
                case LEFT:
                case RIGHT:
                case NIL:
                case EMPTY:
                    return afterTyped(node, stack);
                case ADD:
                case SUB:
                case MUL:
                case EDIV:
                    return afterSum(node.code, stack);
                default:
                    return node.code < COMPARE ? afterPlain(node.code, stack) : afterTest(node.code, stack);
            }
        }

        private Stack afterEither(Node node, Step step, Stack stack, int held) {
            Type type = stack.at(0);
            Stack rest = stack.drop(1);
            Stack forFirst = rest;
            Stack forSecond = rest;
            if (node.code == IFNONE) {
                forSecond = rest.with(type.first());
            } else if (node.code == IFLEFT) {
                forFirst = rest.with(type.first());
                forSecond = rest.with(type.second());
            } else if (node.code == IFCONS) {
                forFirst = stack.with(type.first());
            }
            Stack first = block(node.part(0), step.first, forFirst, held);
            Stack second = block(node.part(1), step.second, forSecond, held);
            require(first.failed() || second.failed() || Stack.same(first, second), node.place);
            return first.failed() ? second : first;
        }

        private Stack afterRepeated(Node node, Step step, Stack stack, int held) {
            Type type = stack.at(0);
            Stack rest = stack.drop(1);
            Stack begin = rest;
            if (node.code != LOOP) {
                begin = rest.with(type.code == T_MAP ? Type.pair(type.first(), type.second()) : type.first());
            }
            Stack left = block(node.part(0), step.first, begin, held);
            require(!left.failed(), node.place);
            if (node.code == MAP) {
                require(left.size == stack.size && Stack.same(left.drop(1), rest), node.place);
                return rest.with(Type.of(T_LIST, left.at(0)));
            }
            require(Stack.same(left, node.code == LOOP ? stack : rest), node.place);
            return rest;
        }

        private Stack afterTyped(Node node, Stack stack) {
            Type type = type(node.part(0), PLAIN);
            switch (node.code) {
                case PUSH:
                    int misfit = type.misfit(node.part(1));
                    require(misfit == NONE, misfit);
                    return stack.with(type);
                case NOTHING:
                    return stack.with(Type.of(T_OPTION, type));
                case LEFT:
                    return stack.drop(1).with(new Type(T_OR, stack.at(0), type));
                case RIGHT:
                    return stack.drop(1).with(new Type(T_OR, type, stack.at(0)));
                case NIL:
                    return stack.with(Type.of(T_LIST, type));
                default:
                    // EMPTY.
                    require(type.simple, node.part(0).place);
                    return stack.with(new Type(T_MAP, type, type(node.part(1), PLAIN)));
            }
        }

        private Stack afterSum(int code, Stack stack) {
            boolean nat = code != SUB && stack.has(0, T_NAT) && stack.has(1, T_NAT);
            Type type = Type.of(nat ? T_NAT : T_INT);
            if (code == EDIV) {
                type = Type.of(T_OPTION, Type.pair(type, Type.of(T_NAT)));
            }
            return stack.drop(2).with(type);
        }

        private Stack afterPlain(int code, Stack stack) {
            Stack rest = stack.drop(1);
            Type top = stack.at(0);
            switch (code) {
                case DUP:
                    return stack.with(top);
                case SWAP:
                    return stack.drop(2).with(top).with(stack.at(1));
                case UNIT:
                    return stack.with(Type.of(T_UNIT));
                case PAIR:
                    return stack.drop(2).with(Type.pair(top, stack.at(1)));
                case CAR:
                    return rest.with(top.first());
                case CDR:
                    return rest.with(top.second());
                case SOME:
                    return rest.with(Type.of(T_OPTION, top));
                case GET:
                    return stack.drop(2).with(Type.of(T_OPTION, stack.at(1).second()));
                case UPDATE:
                    return stack.drop(2);
                case MEM:
                    return stack.drop(2).with(Type.of(T_BOOL));
                case NOT:
                    return stack;
                case SIZE:
                case ABS:
                    return rest.with(Type.of(T_NAT));
                case NEG:
                case INT:
                    return rest.with(Type.of(T_INT));
                case ISNAT:
                    return rest.with(Type.of(T_OPTION, Type.of(T_NAT)));
                default:
                    // DROP; CONS, AND and OR leave what was below the top.
                    return rest;
            }
        }

        private Stack afterTest(int code, Stack stack) {
            switch (code) {
                case COMPARE:
                    return stack.drop(2).with(Type.of(T_INT));
                case CONCAT:
                    return stack.drop(1);
                case FAIL:
                    return Stack.ofFailed();
                default:
                    // EQ to GE.
                    return stack.drop(1).with(Type.of(T_BOOL));
            }
        }
    }

    /** The doing of a call's code, on a stack of values. */
    private static final class Machine {
        private final Value[] stack = new Value[MOST_ON_STACK];
        private final Value nothing = Value.emptyRow();
        private final Output output;
        private final int bits;
        private final int bound;
        private int size = 0;
        private int paid = 0;

        Machine(Output output, int bits, int bound) {
            this.output = output;
            this.bits = bits;
            this.bound = bound;
        }

        void push(Value value) {
            if (size < stack.length) {
                stack[size] = value;
                size = size + 1;
            }
        }

        /** The value that goes off the stack; THE CHECK has seen to it that there is one. */
        Value pop() {
            Value top = under(0);
            size = Math.max(0, size - 1);
            return top;
        }

        private Value under(int i) {
            int at = size - 1 - i;
            return at < 0 || at >= stack.length || stack[at] == null ? nothing : stack[at];
        }

        private void pay(int cost) {
            if (paid + cost > bound) {
                throw new IllegalStateException();
            }
            paid = paid + cost;
        }

        /** Does the steps of a row; nodes are at most 9 deep, so rows in rows are fewer. */
        void block(Step[] steps) {
            for (int i = 0; i < steps.length; i++) {
                if (steps[i] != null) {
                    step(steps[i]);
                }
            }
        }

        private void step(Step step) {
            int code = step.code;
            pay(code == UPDATE && !step.big ? 1 + under(2).size : 1);
            if (code == DIP) {
                Value held = pop();
                block(step.first);
                push(held);
            } else if (code == ITER) {
                iterate(step);
            } else if (code == MAP) {
                mapList(step);
            } else if (code == LOOP) {
                loop(step);
            } else if (code == IF || code == IFNONE || code == IFLEFT || code == IFCONS) {
                either(step);
            } else if (code >= COMPARE) {
                test(code);
            } else if (code >= ADD) {
                number(code);
            } else if (code >= GET) {
                lookUp(code);
            } else {
                arrange(step);
            }
        }

        private void either(Step step) {
            Value top = pop();
            boolean first;
            switch (step.code) {
                case IF:
                    first = top.isTrue();
                    break;
                case IFNONE:
                    first = top.kind == V_NONE;
                    break;
                case IFLEFT:
                    first = top.kind == V_LEFT;
                    break;
                default:
                    // IFCONS.
                    first = top.size > 0;
                    break;
            }
            if (step.code == IFCONS && first) {
                push(top.rest());
                push(top.item(0));
            } else if (step.code == IFLEFT || step.code == IFNONE && !first) {
                push(top.first());
            }
            block(first ? step.first : step.second);
        }

        private void iterate(Step step) {
            Value row = pop();
            for (int i = 0; i < row.size; i++) {
                pay(1);
                Value item = row.item(i);
                push(item.kind == V_ENTRY ? Value.word(V_PAIR, item.first(), item.second()) : item);
                block(step.first);
            }
        }

        private void mapList(Step step) {
            Value row = pop();
            Value[] made = new Value[Math.max(0, row.size)];
            for (int i = 0; i < made.length; i++) {
                pay(1);
                push(row.item(i));
                block(step.first);
                made[i] = pop();
            }
            push(Value.row(made));
        }

        private void loop(Step step) {
            boolean again = pop().isTrue();
            // Each time costs, so the bound of cost ends it ahead of this one.
            for (int i = 0; i <= MOST_COST && again; i++) {
                pay(1);
                block(step.first);
                again = pop().isTrue();
            }
        }

        private void arrange(Step step) {
            switch (step.code) {
                case DROP:
                    pop();
                    break;
                case DUP:
                    push(under(0));
                    break;
                case PUSH:
                    push(step.constant);
                    break;
                case UNIT:
                    push(Value.word(V_UNIT, null, null));
                    break;
                case CAR:
                    push(pop().first());
                    break;
                case CDR:
                    push(pop().second());
                    break;
                case SOME:
                    push(Value.some(pop()));
                    break;
                case NOTHING:
                    push(Value.none());
                    break;
                case LEFT:
                    push(Value.word(V_LEFT, pop(), null));
                    break;
                case RIGHT:
                    push(Value.word(V_RIGHT, pop(), null));
                    break;
                case SIZE:
                    push(Value.number(Num.of(pop().size)));
                    break;
                case NIL:
                case EMPTY:
                    push(Value.emptyRow());
                    break;
                default:
                    join(step.code, pop(), pop());
                    break;
            }
        }

        private void join(int code, Value x, Value y) {
            if (code == SWAP) {
                push(x);
                push(y);
            } else if (code == PAIR) {
                push(Value.word(V_PAIR, x, y));
            } else {
                // CONS.
                push(y.with(x));
            }
        }

        private void lookUp(int code) {
            Value x = pop();
            switch (code) {
                case GET:
                    push(pop().got(x));
                    break;
                case UPDATE:
                    Value option = pop();
                    push(pop().updated(x, option));
                    break;
                case MEM:
                    push(Value.truth(pop().has(x)));
                    break;
                case AND:
                    push(Value.truth(pop().isTrue() && x.isTrue()));
                    break;
                case OR:
                    push(Value.truth(pop().isTrue() || x.isTrue()));
                    break;
                default:
                    // NOT.
                    push(Value.truth(!x.isTrue()));
                    break;
            }
        }

        private void number(int code) {
            Num x = pop().number();
            switch (code) {
                case ADD:
                    push(sized(Num.sum(x, pop().number())));
                    break;
                case SUB:
                    push(sized(Num.sum(x, pop().number().negated())));
                    break;
                case MUL:
                    push(sized(Num.product(x, pop().number())));
                    break;
                case EDIV:
                    Num y = pop().number();
                    push(y.isZero() ? Value.none() : divided(Num.divided(x, y)));
                    break;
                case NEG:
                    push(Value.number(x.negated()));
                    break;
                case ABS:
                    push(Value.number(x.unsigned()));
                    break;
                case ISNAT:
                    push(x.below ? Value.none() : Value.some(Value.number(x)));
                    break;
                default:
                    // INT.
                    push(Value.number(x));
                    break;
            }
        }

        private Value divided(Num[] parts) {
            Value q = sized(parts[0]);
            Value r = sized(parts[1]);
            return Value.some(Value.word(V_PAIR, q, r));
        }

        private Value sized(Num number) {
            if (!number.fits(bits)) {
                throw new ArithmeticException();
            }
            return Value.number(number);
        }

        private void test(int code) {
            Value x = pop();
            switch (code) {
                case COMPARE:
                    push(Value.number(Num.of(Value.order(x, pop()))));
                    break;
                case CONCAT:
                    push(joined(x, pop()));
                    break;
                case FAIL:
                    output.write(x);
                    throw new UnsupportedOperationException();
                default:
                    push(Value.truth(isToZero(code, x.number().sign())));
                    break;
            }
        }

        private boolean isToZero(int code, int sign) {
            switch (code) {
                case EQ:
                    return sign == 0;
                case NE:
                    return sign != 0;
                case LT:
                    return sign < 0;
                case GT:
                    return sign > 0;
                case LE:
                    return sign <= 0;
                default:
                    // GE.
                    return sign >= 0;
            }
        }

        private Value joined(Value x, Value y) {
            int length = x.size + y.size;
            if (length > MOST_IN_TEXT) {
                throw new ArithmeticException();
            }
            // Behind a text of 8 only the empty one comes, so that a shift by 64, which is none, does no harm.
            return Value.text(x.text | y.text >>> (8 * x.size), length);
        }
    }

    /** The bytes of the output. */
    private static final class Output {
        private final byte[] bytes = new byte[MOST_OUTPUT];
        private int length = 0;

        void clear() {
            length = 0;
        }

        int at(int i) {
            return i < 0 || i >= length || i >= bytes.length ? NONE : bytes[i] & 255;
        }

        /** Appends a value's nodes; types keep values at most 8 deep. */
        void write(Value value) {
            if (value.kind == NUMBER) {
                append(NUMBER);
                number(value.number());
            } else if (value.kind == TEXT) {
                text(value);
            } else if (value.kind == ROW) {
                row(value);
            } else {
                word(value);
            }
        }

        private void word(Value value) {
            int n = (value.first == null ? 0 : 1) + (value.second == null ? 0 : 1);
            append(WORD + n);
            append(value.kind);
            if (n > 0) {
                write(value.first());
            }
            if (n > 1) {
                write(value.second());
            }
        }

        private void row(Value value) {
            append(ROW);
            append(value.size);
            for (int i = 0; i < value.size; i++) {
                write(value.item(i));
            }
        }

        private void text(Value value) {
            append(TEXT);
            append(value.size);
            for (int i = 0; i < value.size; i++) {
                append((int) (value.text >>> (8 * (MOST_IN_TEXT - 1 - i))) & 255);
            }
        }

        private void number(Num number) {
            int sign = number.below ? SIGN : 0;
            long low = number.low;
            long high = number.high;
            int octet = (int) (low & (SIGN - 1)) | sign;
            int bits = FIRST_BITS;
            for (int i = 0; i < MOST_BITS; i++) {
                low = low >> bits | high << (Num.HALF - bits) & Num.HALF_MASK;
                high = high >> bits;
                if (low == 0 && high == 0) {
                    break;
                }
                append(octet | MORE);
                bits = NEXT_BITS;
                octet = (int) (low & (MORE - 1));
            }
            append(octet);
        }

        private void append(int octet) {
            if (length < bytes.length) {
                bytes[length] = (byte) octet;
                length = length + 1;
            }
        }
    }

    /** A contract that was deployed. */
    private static final class Contract {
        private final Type parameter;
        private final Type storage;
        private final Step[] code;
        private Value stored;
        private int steps = 0;
        private int deepest = 0;
        private int calls = 0;
        private int spent = 0;

        Contract(Type parameter, Type storage, Step[] code, Value stored) {
            this.parameter = parameter;
            this.storage = storage;
            this.code = code;
            this.stored = stored;
        }

        boolean hasBig() {
            return storage.code == T_PAIR && storage.first().code == T_BIG;
        }

        Type keyType() {
            return storage.first().first();
        }

        Value big() {
            return stored.first();
        }

        /** The storage as it is shown: for a BIG there stands how many keys it has. */
        Value shown() {
            if (!hasBig()) {
                return stored;
            }
            return Value.word(V_PAIR, Value.number(Num.of(big().size)), stored.second());
        }
    }
}
