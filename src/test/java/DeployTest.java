/** Promise 3: deploy, with the places that wrong() tells of what is ILL. */
public final class DeployTest extends Ledgers {
    private static final int[] N = Ledgers.NAT;
    private static final int[] PUSH_NAT = Ledgers.push(N, ONE);
    private static final int[] PUSH_INT = Ledgers.push(Ledgers.INT, ONE);
    private static final int[] PUSH_TRUE = Ledgers.push(Ledgers.BOOL, Ledgers.TRUE);

    public static void main(String[] args) {
        numbersAndOutput();
        types();
        keys();
        bigs();
        typeDepths();
        values();
        maps();
        plainInstructions();
        rowsAndParts();
        failed();
        branches();
        repeated();
        twelve();
        stackDepths();
        ends();
        inOrder();
        Ledgers.end();
    }

    private static void numbersAndOutput() {
        PactLedger ledger = new PactLedger();
        int[] script = natScript();
        Ledgers.put(ledger, script).deploy();
        ledger.storage(0);
        for (int i = 1; i < 4; i++) {
            Ledgers.put(ledger, natScript(DROP));
            Ledgers.due("an ILL one", Ledgers.answer(ledger::deploy), Ledgers.UNSUPPORTED);
            Ledgers.put(ledger, script);
            Ledgers.due("deploy()", Ledgers.answer(ledger::deploy), Integer.toString(i));
            Ledgers.due("wrong()", ledger.wrong(), -1);
        }
        Ledgers.due("output", Ledgers.output(ledger), ONE);
        Ledgers.due("a fifth", Ledgers.answer(ledger::deploy), Ledgers.ILLEGAL_STATE);
        Ledgers.put(ledger, natScript(DROP));
        Ledgers.due("a fifth that is ILL", Ledgers.answer(ledger::deploy), Ledgers.ILLEGAL_STATE);
        Ledgers.due("output", Ledgers.output(ledger), ONE);
    }

    private static void illType(String what, int[] type, int place) {
        int[] rest = Ledgers.join(Ledgers.row(), ONE);
        Ledgers.ill(what + " of the parameter", Ledgers.join(type, N, N, rest), place);
        Ledgers.ill(what + " of the result", Ledgers.join(N, type, N, rest), 2 + place);
        Ledgers.ill(what + " of the storage", Ledgers.join(N, N, type, rest), 4 + place);
        illCode(what + " of NIL", 2 + place, Ledgers.word(45, type));
        illCode(what + " of LEFT", 2 + place, Ledgers.word(42, type));
    }

    private static void types() {
        illType("a number", Ledgers.num(3), 0);
        illType("a text", Ledgers.text("a"), 0);
        illType("a row", Ledgers.row(), 0);
        illType("word 11", Ledgers.word(11), 0);
        illType("word 255", Ledgers.word(255), 0);
        illType("word 20", Ledgers.THE_UNIT, 0);
        illType("NAT with a part", Ledgers.word(3, N), 0);
        illType("PAIR without parts", Ledgers.word(5), 0);
        illType("PAIR of one", Ledgers.word(5, N), 0);
        illType("PAIR of three", Ledgers.word(5, N, N, N), 0);
        illType("OPTION of two", Ledgers.word(6, N, N), 0);
        illType("LIST of none", Ledgers.word(8), 0);
        illType("OR of one", Ledgers.word(7, N), 0);
        illType("MAP of one", Ledgers.word(9, N), 0);
        illType("PAIR of a wrong first", Ledgers.pairType(Ledgers.word(12), Ledgers.word(13)), 2);
        illType("PAIR of a wrong second", Ledgers.pairType(N, Ledgers.word(13)), 4);
        int[][] right = {
            Ledgers.UNIT, Ledgers.BOOL, Ledgers.INT, N, Ledgers.TEXT, Ledgers.pairType(N, Ledgers.UNIT),
            Ledgers.optionType(N), Ledgers.orType(N, Ledgers.TEXT), Ledgers.listType(N), Ledgers.mapType(N, N)
        };
        for (int[] type : right) {
            keptCode("NIL of " + Ledgers.told(type), Ledgers.word(45, type), DROP);
        }
    }

    private static void keys() {
        int[][] wrongKeys = {
            Ledgers.UNIT, Ledgers.optionType(N), Ledgers.listType(N), Ledgers.orType(N, N), Ledgers.mapType(N, N),
            Ledgers.pairType(N, Ledgers.UNIT), Ledgers.pairType(Ledgers.UNIT, N)
        };
        for (int[] key : wrongKeys) {
            illType("MAP with a key of " + Ledgers.told(key), Ledgers.mapType(key, Ledgers.word(99)), 2);
            illCode("EMPTY with a key of " + Ledgers.told(key), 2, Ledgers.word(51, key, Ledgers.word(99)));
        }
        int[] pairs = Ledgers.pairType(Ledgers.pairType(Ledgers.BOOL, Ledgers.TEXT), Ledgers.pairType(N, Ledgers.INT));
        keptCode("MAP with pairs as keys", Ledgers.word(51, pairs, Ledgers.UNIT), DROP);
        illCode("EMPTY with a wrong value", 2 + pairs.length, Ledgers.word(51, pairs, Ledgers.word(99)));
        illCode("EMPTY with a wrong part of the key", 4, Ledgers.word(51, Ledgers.pairType(Ledgers.word(77), N), N));
    }

    private static void bigs() {
        int[] big = Ledgers.bigType(N, Ledgers.TEXT);
        illType("BIG", big, 0);
        illType("LIST of BIG", Ledgers.listType(big), 2);
        illType("PAIR with BIG behind", Ledgers.pairType(N, big), 4);
        illType("OR of BIG", Ledgers.orType(big, N), 2);
        illType("PAIR of a PAIR of BIG", Ledgers.pairType(Ledgers.pairType(big, N), N), 4);
        int[] type = Ledgers.pairType(big, N);
        int[] value = Ledgers.pair(Ledgers.row(), ONE);
        Ledgers.ill("BIG in the parameter", Ledgers.echo(type, N, ONE), 2);
        Ledgers.ill("BIG in the result", Ledgers.script(N, type, N, Ledgers.row(), ONE), 4);
        Ledgers.ill("BIG in the code", natScript(Ledgers.word(45, type)), FIRST + 4);
        Ledgers.ill("BIG in EMPTY", natScript(Ledgers.word(51, N, big)), FIRST + 4);
        Ledgers.kept("BIG in the storage", Ledgers.echo(N, type, value));
        Ledgers.ill("two of BIG", Ledgers.echo(N, Ledgers.pairType(big, big), value), 4 + 2 + big.length);
        Ledgers.ill("a key that is not simple",
            Ledgers.echo(N, Ledgers.pairType(Ledgers.bigType(Ledgers.UNIT, N), N), value), 8);
        Ledgers.ill("BIG of BIG", Ledgers.echo(N, Ledgers.pairType(Ledgers.bigType(N, big), N), value), 10);
        Ledgers.ill("BIG with one part", Ledgers.echo(N, Ledgers.pairType(Ledgers.word(10, N), N), value), 6);
    }

    private static int[] deep(int depth) {
        int[] type = N;
        for (int i = 1; i < depth; i++) {
            type = i % 2 == 0 ? Ledgers.optionType(type) : Ledgers.listType(type);
        }
        return type;
    }

    private static void typeDepths() {
        Ledgers.kept("a parameter 7 deep", Ledgers.echo(deep(7), N, ONE));
        Ledgers.kept("a storage 7 deep", Ledgers.echo(N, deep(7), Ledgers.NO_VALUE));
        Ledgers.ill("a type 8 deep", Ledgers.echo(deep(8), N, ONE), 0);
        Ledgers.ill("a type 9 deep", Ledgers.echo(deep(9), N, ONE), 2);
        int[] bad = Ledgers.pairType(deep(7), Ledgers.word(99));
        Ledgers.ill("a type 9 deep with a wrong part", Ledgers.echo(Ledgers.listType(bad), N, ONE), 4 + deep(7).length);
        Ledgers.ill("depth of the second part", Ledgers.echo(Ledgers.pairType(N, deep(7)), N, ONE), 0);
    }

    private static void values() {
        rightValue(Ledgers.UNIT, Ledgers.THE_UNIT);
        illValue("word 21 for a UNIT", Ledgers.UNIT, Ledgers.FALSE, 0);
        illValue("word 20 with a part", Ledgers.UNIT, Ledgers.word(20, ONE), 0);
        rightValue(Ledgers.BOOL, Ledgers.FALSE);
        rightValue(Ledgers.BOOL, Ledgers.TRUE);
        illValue("word 20 for a BOOL", Ledgers.BOOL, Ledgers.THE_UNIT, 0);
        illValue("word 23 for a BOOL", Ledgers.BOOL, Ledgers.word(23), 0);
        illValue("a number for a BOOL", Ledgers.BOOL, ONE, 0);
        rightValue(Ledgers.INT, Ledgers.num(-5));
        rightValue(N, Ledgers.num(0));
        illValue("-1 for a NAT", N, Ledgers.num(-1), 0);
        illValue("a text for an INT", Ledgers.INT, Ledgers.text("1"), 0);
        illValue("a row for a NAT", N, Ledgers.row(), 0);
        rightValue(Ledgers.TEXT, Ledgers.text(""));
        illValue("a number for a TEXT", Ledgers.TEXT, ONE, 0);
        int[] pairs = Ledgers.pairType(N, Ledgers.TEXT);
        rightValue(pairs, Ledgers.pair(ONE, Ledgers.text("x")));
        illValue("a pair of one", pairs, Ledgers.word(23, ONE), 0);
        illValue("a pair with a wrong first", pairs, Ledgers.pair(Ledgers.num(-1), ONE), 2);
        illValue("a pair with a wrong second", pairs, Ledgers.pair(ONE, ONE), 4);
        illValue("an entry for a pair", pairs, Ledgers.entry(ONE, Ledgers.text("x")), 0);
        int[] options = Ledgers.optionType(N);
        rightValue(options, Ledgers.NO_VALUE);
        rightValue(options, Ledgers.some(ONE));
        illValue("none with a part", options, Ledgers.word(24, ONE), 0);
        illValue("some without a part", options, Ledgers.word(25), 0);
        illValue("some of a text", options, Ledgers.some(Ledgers.text("x")), 2);
        int[] ors = Ledgers.orType(N, Ledgers.TEXT);
        rightValue(ors, Ledgers.left(ONE));
        rightValue(ors, Ledgers.right(Ledgers.text("x")));
        illValue("left of the right one's type", ors, Ledgers.left(Ledgers.text("x")), 2);
        illValue("right of the left one's type", ors, Ledgers.right(ONE), 2);
        illValue("left with two", ors, Ledgers.word(26, ONE, ONE), 0);
        illValue("an option for an or", ors, Ledgers.some(ONE), 0);
        int[] lists = Ledgers.listType(N);
        rightValue(lists, Ledgers.row());
        rightValue(lists, Ledgers.many(40, ONE));
        illValue("a list with a wrong one", lists, Ledgers.row(ONE, Ledgers.num(-1), Ledgers.text("")), 4);
        illValue("a number for a list", lists, ONE, 0);
    }

    private static void maps() {
        int[] maps = Ledgers.mapType(Ledgers.INT, Ledgers.TEXT);
        int[] x = Ledgers.text("x");
        int[] minus = Ledgers.entry(Ledgers.num(-2), x);
        int[] zero = Ledgers.entry(Ledgers.num(0), x);
        int[] one = Ledgers.entry(ONE, x);
        rightValue(maps, Ledgers.row());
        rightValue(maps, Ledgers.row(minus, zero, one));
        illValue("keys that fall", maps, Ledgers.row(minus, one, zero), 2 + minus.length + one.length + 2);
        illValue("a key twice", maps, Ledgers.row(one, one), 2 + one.length + 2);
        illValue("a pair for an entry", maps, Ledgers.row(minus, Ledgers.pair(ONE, x)), 2 + minus.length);
        illValue("an entry of one", maps, Ledgers.row(Ledgers.word(28, ONE)), 2);
        illValue("a wrong key", maps, Ledgers.row(one, Ledgers.entry(x, ONE)), 2 + one.length + 2);
        illValue("a wrong value", maps, Ledgers.row(Ledgers.entry(ONE, ONE)), 2 + 2 + 2);
        illValue("a key twice and a wrong value", maps, Ledgers.row(one, Ledgers.entry(ONE, ONE)), 2 + one.length + 2);
        illValue("an entry for a map", maps, one, 0);
        int[] sets = Ledgers.mapType(Ledgers.TEXT, Ledgers.UNIT);
        String[] ascending = {"", " ", "A", "AA", "AB", "B", "BAAAAAAA", "BAAAAAAB", "a", "~"};
        int[][] entries = new int[ascending.length][];
        for (int i = 0; i < ascending.length; i++) {
            entries[i] = Ledgers.entry(Ledgers.text(ascending[i]), Ledgers.THE_UNIT);
        }
        rightValue(sets, Ledgers.row(entries));
        for (int i = 1; i < ascending.length; i++) {
            illValue("texts that fall", sets, Ledgers.row(entries[i], entries[i - 1]), 2 + entries[i].length + 2);
        }
        int[] bools = Ledgers.mapType(Ledgers.BOOL, N);
        rightValue(bools, Ledgers.row(Ledgers.entry(Ledgers.FALSE, ONE), Ledgers.entry(Ledgers.TRUE, ONE)));
        illValue("bools that fall", bools, Ledgers.row(Ledgers.entry(Ledgers.TRUE, ONE),
            Ledgers.entry(Ledgers.FALSE, ONE)), 2 + 6 + 2);
        int[] twos = Ledgers.mapType(Ledgers.pairType(Ledgers.INT, Ledgers.INT), N);
        int[] low = Ledgers.entry(Ledgers.pair(Ledgers.num(-1), Ledgers.num(9)), ONE);
        int[] middle = Ledgers.entry(Ledgers.pair(Ledgers.num(1), Ledgers.num(-9)), ONE);
        int[] high = Ledgers.entry(Ledgers.pair(Ledgers.num(1), Ledgers.num(-8)), ONE);
        rightValue(twos, Ledgers.row(low, middle, high));
        illValue("pairs that fall", twos, Ledgers.row(low, high, middle), 2 + low.length + high.length + 2);
        int[] wide = Ledgers.mapType(Ledgers.INT, N);
        int[] wideLow = Ledgers.entry(Ledgers.num(Ledgers.power(119).negate()), ONE);
        int[] wideHigh = Ledgers.entry(Ledgers.num(Ledgers.power(119)), ONE);
        rightValue(wide, Ledgers.row(wideLow, Ledgers.entry(Ledgers.num(-1), ONE), wideHigh));
    }

    /** That an instruction without parts is kept on these types, the last one on top, and leaves this type. */
    private static void leaves(int code, int[] result, int[]... types) {
        int[][] body = new int[types.length * 2 + 2][];
        int n = 0;
        for (int[] type : types) {
            // An empty list's first one has any type that is wanted.
            body[n++] = Ledgers.word(45, type);
            body[n++] = Ledgers.word(47, Ledgers.row(Ledgers.word(33, Ledgers.row(DROP))),
                Ledgers.row(Ledgers.push(N, ONE), FAIL));
        }
        body[n++] = Ledgers.word(code);
        body[n] = Ledgers.word(45, result);
        int[] all = Ledgers.code(body, Ledgers.steps(32, 46, 30));
        String what = code + " leaves " + Ledgers.told(result);
        int[] script = Ledgers.script(N, N, N, all, ONE);
        Ledgers.kept(what, script);
    }

    /** That an instruction without parts is refused on these types, the last one on top. */
    private static void refuses(int code, int[]... types) {
        int[][] body = new int[types.length * 2][];
        int n = 0;
        int[] drop = Ledgers.word(33, Ledgers.row(DROP));
        for (int[] type : types) {
            body[n++] = Ledgers.word(45, type);
            body[n++] = Ledgers.word(47, Ledgers.row(drop), Ledgers.row(Ledgers.push(N, ONE), FAIL));
        }
        int[] before = Ledgers.code(Ledgers.steps(30), body);
        int[] all = Ledgers.code(Ledgers.steps(30), body, Ledgers.steps(code));
        Ledgers.ill(code + " on " + types.length, Ledgers.script(N, N, N, all, ONE), FIRST + before.length - 2);
    }

    private static void plainInstructions() {
        int[] b = Ledgers.BOOL;
        int[] i = Ledgers.INT;
        int[] t = Ledgers.TEXT;
        int[] u = Ledgers.UNIT;
        int[] list = Ledgers.listType(t);
        int[] map = Ledgers.mapType(t, b);
        int[] option = Ledgers.optionType(b);
        keptCode("DUP", PUSH_TRUE, Ledgers.word(31), Ledgers.word(55), DROP);
        keptCode("SWAP", PUSH_TRUE, PUSH_NAT, Ledgers.word(32), Ledgers.word(57), DROP, DROP);
        leaves(36, Ledgers.pairType(b, t), t, b);
        leaves(37, b, Ledgers.pairType(b, t));
        leaves(38, t, Ledgers.pairType(b, t));
        leaves(39, option, b);
        leaves(35, u);
        leaves(46, list, list, t);
        leaves(48, N, list);
        leaves(48, N, map);
        leaves(48, N, t);
        leaves(52, option, map, t);
        leaves(53, map, map, option, t);
        leaves(54, b, map, t);
        leaves(55, b, b, b);
        leaves(56, b, b, b);
        leaves(57, b, b);
        int[][] numbers = {i, N};
        for (int[] x : numbers) {
            for (int[] y : numbers) {
                int[] both = x == N && y == N ? N : i;
                leaves(60, both, x, y);
                leaves(61, i, x, y);
                leaves(62, both, x, y);
                leaves(63, Ledgers.optionType(Ledgers.pairType(both, N)), x, y);
            }
            leaves(64, i, x);
        }
        leaves(65, N, i);
        leaves(66, Ledgers.optionType(N), i);
        leaves(67, i, N);
        int[][] simple = {b, i, N, t, Ledgers.pairType(b, Ledgers.pairType(t, t))};
        for (int[] type : simple) {
            leaves(68, i, type, type);
        }
        for (int code = 69; code <= 74; code++) {
            leaves(code, b, i);
            refuses(code, N);
            refuses(code);
        }
        leaves(75, t, t, t);
        int[] oneNeeded = {30, 31, 39, 57, 64, 65, 66, 67, 76, 37, 38, 48};
        for (int code : oneNeeded) {
            refuses(code);
        }
        int[] twoNeeded = {32, 36, 46, 52, 54, 55, 56, 60, 61, 62, 63, 68, 75};
        for (int code : twoNeeded) {
            refuses(code);
            refuses(code, N);
            refuses(code, t);
            refuses(code, b);
        }
        refuses(37, b);
        refuses(38, Ledgers.orType(b, b));
        refuses(46, list, b);
        refuses(46, t, list);
        refuses(48, N);
        refuses(48, Ledgers.pairType(b, b));
        refuses(52, map, b);
        refuses(52, list, t);
        refuses(53, map, b, t);
        refuses(53, map, option, b);
        refuses(53, map, Ledgers.optionType(t), t);
        refuses(53, option, t);
        refuses(54, map, N);
        refuses(55, b, N);
        refuses(56, N, b);
        refuses(57, N);
        refuses(60, N, t);
        refuses(61, b, i);
        refuses(62, t, N);
        refuses(63, N, b);
        refuses(64, t);
        refuses(65, N);
        refuses(66, N);
        refuses(67, i);
        refuses(68, N, i);
        refuses(68, u, u);
        refuses(68, list, list);
        refuses(75, t, N);
        refuses(75, N, t);
        refuses(76, list);
        refuses(76, Ledgers.pairType(b, u));
        refuses(29, b);
        refuses(77, b);
        bigsInCode();
    }

    private static void bigsInCode() {
        int[] type = Ledgers.pairType(Ledgers.bigType(N, N), N);
        int[] value = Ledgers.pair(Ledgers.row(), ONE);
        int[][] bring = Ledgers.steps(31, 38, 37);
        Ledgers.kept("GET of BIG", Ledgers.script(N, N, type,
            Ledgers.code(bring, Ledgers.step(PUSH_NAT), Ledgers.steps(52, 30)), value));
        Ledgers.kept("MEM of BIG", Ledgers.script(N, N, type,
            Ledgers.code(bring, Ledgers.step(PUSH_NAT), Ledgers.steps(54, 30)), value));
        Ledgers.kept("UPDATE of BIG", Ledgers.script(N, N, type,
            Ledgers.code(bring, Ledgers.step(Ledgers.word(40, N)), Ledgers.step(PUSH_NAT), Ledgers.steps(53, 30)),
            value));
        int start = 2 + 2 + type.length + 2 + 6;
        Ledgers.ill("SIZE of BIG", Ledgers.script(N, N, type, Ledgers.code(bring, Ledgers.steps(48, 30)), value), start);
        Ledgers.ill("ITER of BIG", Ledgers.script(N, N, type,
            Ledgers.code(bring, Ledgers.step(Ledgers.word(49, Ledgers.row(DROP)))), value), start);
        Ledgers.ill("a MAP for a BIG", Ledgers.script(N, N, type, Ledgers.code(Ledgers.steps(30),
            Ledgers.step(PUSH_NAT), Ledgers.step(Ledgers.word(51, N, N)), Ledgers.steps(36), Ledgers.step(PUSH_NAT),
            Ledgers.steps(36)), value), 4 + type.length);
    }

    private static void rowsAndParts() {
        illCode("a number as instruction", 0, ONE);
        illCode("a text as instruction", 0, Ledgers.text("a"));
        illCode("a row as instruction", 0, Ledgers.row(DROP));
        illCode("word 29", 0, Ledgers.word(29));
        illCode("word 0", 0, Ledgers.word(0));
        illCode("DROP with a part", 0, Ledgers.word(30, N));
        illCode("PUSH with one part", 0, Ledgers.word(34, N));
        illCode("PUSH with three parts", 0, Ledgers.word(34, N, ONE, ONE));
        illCode("DIP without parts", 0, Ledgers.word(33));
        illCode("NIL without parts", 0, Ledgers.word(45));
        illCode("EMPTY with one part", 0, Ledgers.word(51, N));
        illCode("FAIL with a part", 0, Ledgers.word(76, N));
        illCode("IF with one part", PUSH_TRUE.length, PUSH_TRUE, Ledgers.word(58, Ledgers.row()));
        illCode("LOOP with two parts", PUSH_TRUE.length, PUSH_TRUE, Ledgers.word(59, Ledgers.row(), Ledgers.row()));
        illCode("DIP of no row", 2, Ledgers.word(33, DROP));
        illCode("IF with no row as first", PUSH_TRUE.length + 2, PUSH_TRUE, Ledgers.word(58, ONE, ONE));
        illCode("IF with no row as second", PUSH_TRUE.length + 4, PUSH_TRUE, Ledgers.word(58, Ledgers.row(), ONE));
        illCode("IF with a wrong first and no row as second", PUSH_TRUE.length + 4, PUSH_TRUE,
            Ledgers.word(58, Ledgers.row(Ledgers.word(99)), ONE));
        illCode("IF of a NAT with no rows", PUSH_NAT.length, PUSH_NAT, Ledgers.word(58, ONE, ONE));
        Ledgers.ill("code that is no row", Ledgers.script(N, N, N, DROP, ONE), 6);
        Ledgers.ill("code that is a number", Ledgers.script(N, N, N, ONE, ONE), 6);
        illCode("DIP of nothing", 2, DROP, Ledgers.word(33, Ledgers.row()));
        illCode("RIGHT of nothing", 2, DROP, Ledgers.word(43, N));
        keptCode("LEFT keeps what is below", PUSH_TRUE, PUSH_NAT, Ledgers.word(42, N), DROP, Ledgers.word(57), DROP);
        keptCode("RIGHT keeps what is below", PUSH_TRUE, PUSH_NAT, Ledgers.word(43, N), DROP, Ledgers.word(57), DROP);
        illCode("DIP holds the top", 2 + 2, Ledgers.word(33, Ledgers.row(DROP)));
        keptCode("DIP leaves any", PUSH_NAT, Ledgers.word(33, Ledgers.row(PUSH_TRUE, PUSH_TRUE)), DROP, DROP, DROP);
    }

    private static void failed() {
        keptCode("code that FAILED", PUSH_NAT, FAIL);
        illCode("an instruction behind FAIL", PUSH_NAT.length + 2, PUSH_NAT, FAIL, DROP);
        illCode("none behind FAIL", PUSH_NAT.length + 2, PUSH_NAT, FAIL, ONE);
        int[] fails = Ledgers.row(PUSH_NAT, FAIL);
        int[] both = Ledgers.word(58, fails, fails);
        keptCode("both FAILED", PUSH_TRUE, both);
        illCode("an instruction behind both FAILED", PUSH_TRUE.length + both.length, PUSH_TRUE, both, PUSH_NAT);
        keptCode("the first FAILED", PUSH_TRUE, Ledgers.word(58, fails, Ledgers.row(PUSH_NAT)), DROP);
        keptCode("the second FAILED", PUSH_TRUE, Ledgers.word(58, Ledgers.row(PUSH_NAT), fails), DROP);
        illCode("DIP of FAILED", 0, Ledgers.word(33, fails));
        int[] nil = Ledgers.word(45, N);
        illCode("ITER of FAILED", nil.length, nil, Ledgers.word(49, fails));
        illCode("MAP of FAILED", nil.length, nil, Ledgers.word(50, fails));
        illCode("LOOP of FAILED", PUSH_TRUE.length, PUSH_TRUE, Ledgers.word(59, fails));
        illCode("DIP of both FAILED", 0, Ledgers.word(33, Ledgers.row(PUSH_TRUE, both)));
        keptCode("FAIL of a unit", Ledgers.word(35), FAIL);
        keptCode("FAIL of a pair", FAIL);
    }

    private static void branches() {
        int[] none = Ledgers.word(40, Ledgers.TEXT);
        int[] left = Ledgers.word(42, Ledgers.TEXT);
        int[] nil = Ledgers.word(45, Ledgers.TEXT);
        int[] push = Ledgers.push(Ledgers.TEXT, Ledgers.text(""));
        int[] pushes = Ledgers.row(push);
        int[] nothing = Ledgers.row();
        int[] drops = Ledgers.row(DROP);
        keptCode("IFNONE", none, Ledgers.word(41, pushes, nothing), DROP);
        illCode("IFNONE with another stack", none.length, none, Ledgers.word(41, nothing, nothing), DROP);
        keptCode("IFLEFT", PUSH_TRUE, left, Ledgers.word(44, drops, drops));
        illCode("IFLEFT with another stack", PUSH_TRUE.length + left.length, PUSH_TRUE, left,
            Ledgers.word(44, nothing, nothing), DROP);
        keptCode("IFCONS", nil, Ledgers.word(47, Ledgers.row(DROP, DROP), nothing));
        keptCode("IFCONS, the first one on top", nil,
            Ledgers.word(47, Ledgers.row(push, Ledgers.word(75), DROP, Ledgers.word(48), DROP), nothing));
        illCode("IFCONS with another stack", nil.length, nil, Ledgers.word(47, drops, nothing));
        illCode("IF with another type", PUSH_TRUE.length, PUSH_TRUE,
            Ledgers.word(58, Ledgers.row(PUSH_NAT), Ledgers.row(PUSH_INT)), DROP);
        illCode("IF with another size", PUSH_TRUE.length, PUSH_TRUE,
            Ledgers.word(58, Ledgers.row(PUSH_NAT, PUSH_NAT), Ledgers.row(PUSH_NAT)), DROP);
        illCode("IFNONE of a list", nil.length, nil, Ledgers.word(41, ONE, ONE));
        illCode("IFLEFT of an option", none.length, none, Ledgers.word(44, nothing, nothing));
        illCode("IFCONS of an option", none.length, none, Ledgers.word(47, nothing, nothing));
        illCode("in the second part", none.length + 2 + 4 + 2, none,
            Ledgers.word(41, Ledgers.row(Ledgers.word(35)), Ledgers.row(Ledgers.word(52))));
    }

    private static void repeated() {
        int[] nil = Ledgers.word(45, N);
        int[] empty = Ledgers.word(51, Ledgers.TEXT, N);
        keptCode("ITER of a list", nil, Ledgers.word(49, Ledgers.row(DROP)));
        keptCode("ITER of a map", empty, Ledgers.word(49, Ledgers.row(Ledgers.word(38), PUSH_NAT, Ledgers.word(60),
            DROP)));
        illCode("ITER that leaves the element", nil.length, nil, Ledgers.word(49, Ledgers.row()));
        illCode("ITER that takes what is below", nil.length, nil, Ledgers.word(49, Ledgers.row(DROP, DROP)));
        illCode("ITER of an option", 4, Ledgers.word(40, N), Ledgers.word(49, ONE));
        keptCode("MAP", nil, Ledgers.word(50, Ledgers.row(DROP, PUSH_TRUE)),
            Ledgers.word(49, Ledgers.row(Ledgers.word(57), DROP)));
        illCode("MAP that leaves nothing", nil.length, nil, Ledgers.word(50, Ledgers.row(DROP)));
        illCode("MAP that leaves two", nil.length, nil, Ledgers.word(50, Ledgers.row(Ledgers.word(31))));
        illCode("MAP that changes what is below", PUSH_NAT.length + nil.length, PUSH_NAT, nil,
            Ledgers.word(50, Ledgers.row(Ledgers.word(33, Ledgers.row(DROP, PUSH_INT)))));
        illCode("MAP of a map", empty.length, empty, Ledgers.word(50, Ledgers.row()));
        keptCode("LOOP", PUSH_TRUE, Ledgers.word(59, Ledgers.row(PUSH_TRUE)));
        illCode("LOOP that leaves no bool", PUSH_TRUE.length, PUSH_TRUE, Ledgers.word(59, Ledgers.row()));
        illCode("LOOP that leaves a NAT", PUSH_TRUE.length, PUSH_TRUE, Ledgers.word(59, Ledgers.row(PUSH_NAT)));
        illCode("LOOP that leaves two", PUSH_TRUE.length, PUSH_TRUE,
            Ledgers.word(59, Ledgers.row(PUSH_TRUE, PUSH_TRUE)));
        illCode("LOOP of a NAT", PUSH_NAT.length, PUSH_NAT, Ledgers.word(59, ONE));
    }

    private static int[] dups(int n) {
        int[] all = {};
        for (int i = 0; i < n; i++) {
            all = Ledgers.join(all, Ledgers.word(31));
        }
        return all;
    }

    /** A script with so many of DUP, then a node; it leaves too many. */
    private static int[] dupsThen(int n, int[] node) {
        return Ledgers.script(N, N, N, Ledgers.join(Ledgers.bytes(2, n + 1), dups(n), node), ONE);
    }

    private static void twelve() {
        // 11 of DUP fill the stack, and what is left at the end is refused at the row.
        Ledgers.ill("12 on the stack", dupsThen(10, Ledgers.word(31)), 6);
        Ledgers.ill("13 by DUP", dupsThen(11, Ledgers.word(31)), FIRST + 22);
        Ledgers.ill("13 by UNIT", dupsThen(11, Ledgers.word(35)), FIRST + 22);
        Ledgers.ill("13 by PUSH", dupsThen(11, PUSH_NAT), FIRST + 22);
        Ledgers.ill("13 by a PUSH of a wrong value", dupsThen(11, Ledgers.push(N, Ledgers.num(-1))), FIRST + 22 + 4);
        Ledgers.ill("13 by a NIL of a wrong type", dupsThen(11, Ledgers.word(45, Ledgers.word(99))), FIRST + 22 + 2);
        Ledgers.ill("13 by NONE", dupsThen(11, Ledgers.word(40, N)), FIRST + 22);
        Ledgers.ill("13 by EMPTY", dupsThen(11, Ledgers.word(51, N, N)), FIRST + 22);
        Ledgers.ill("12 with what DIP holds",
            dupsThen(10, Ledgers.word(33, Ledgers.row(Ledgers.word(31)))), 6);
        Ledgers.ill("13 with what DIP holds",
            dupsThen(11, Ledgers.word(33, Ledgers.row(Ledgers.word(31)))), FIRST + 22 + 4);
        Ledgers.ill("13 with what two of DIP hold",
            dupsThen(11, Ledgers.word(33, Ledgers.row(Ledgers.word(33, Ledgers.row(Ledgers.word(31)))))), FIRST + 22 + 8);
        int[] ifcons = Ledgers.word(47, ONE, ONE);
        int[] nilAnd = Ledgers.join(Ledgers.word(45, N), ifcons);
        Ledgers.ill("IFCONS with 12", Ledgers.script(N, N, N,
            Ledgers.join(Ledgers.bytes(2, 12), dups(10), nilAnd), ONE), FIRST + 20 + 4);
        Ledgers.ill("IFCONS with 11", Ledgers.script(N, N, N,
            Ledgers.join(Ledgers.bytes(2, 11), dups(9), nilAnd), ONE), FIRST + 18 + 4 + 2);
        int[] held = Ledgers.word(33, Ledgers.join(Ledgers.bytes(2, 2), nilAnd));
        Ledgers.ill("IFCONS with 11 and one that DIP holds", dupsThen(10, held), FIRST + 20 + 4 + 4);
        Ledgers.ill("IFCONS with 10 and one that DIP holds", dupsThen(9, held), FIRST + 18 + 4 + 4 + 2);
    }

    private static void stackDepths() {
        int[] option = Ledgers.push(deep(7), Ledgers.NO_VALUE);
        int[] none = Ledgers.word(40, deep(7));
        int[] nil = Ledgers.word(45, deep(7));
        keptCode("8 deep by SOME", option, Ledgers.word(39), DROP);
        illCode("9 deep by SOME", option.length + 2, option, Ledgers.word(39), Ledgers.word(39), DROP);
        keptCode("8 deep by NONE", none, DROP);
        illCode("9 deep by SOME of NONE", none.length, none, Ledgers.word(39));
        keptCode("8 deep by NIL", nil, DROP);
        illCode("9 deep by PAIR", none.length, none, Ledgers.word(36), DROP);
        illCode("9 deep by PAIR, the deep one below", none.length + PUSH_NAT.length, none, PUSH_NAT, Ledgers.word(36));
        illCode("9 deep by LEFT", none.length, none, Ledgers.word(42, N));
        illCode("9 deep by RIGHT", none.length, none, Ledgers.word(43, N));
        illCode("9 deep by LEFT of a wrong type", none.length + 2, none, Ledgers.word(42, Ledgers.word(99)));
        keptCode("8 deep by LEFT", PUSH_NAT, Ledgers.word(42, deep(7)), DROP);
        keptCode("8 deep by EMPTY", Ledgers.word(51, N, deep(7)), DROP);
        int[] sixes = Ledgers.word(45, deep(6));
        int[] some = Ledgers.word(39);
        keptCode("8 deep by MAP", sixes, Ledgers.word(50, Ledgers.row(some)), DROP);
        illCode("9 deep by MAP", sixes.length, sixes, Ledgers.word(50, Ledgers.row(some, some)), DROP);
        illCode("9 deep in MAP", sixes.length + 4 + 4, sixes, Ledgers.word(50, Ledgers.row(some, some, some)), DROP);
    }

    private static void ends() {
        Ledgers.ill("an empty stack at the end", natScript(DROP), 6);
        Ledgers.ill("two at the end", natScript(Ledgers.word(31)), 6);
        Ledgers.ill("another at the end", natScript(PUSH_NAT, Ledgers.word(36)), 6);
        Ledgers.ill("another result", Ledgers.script(N, Ledgers.INT, N, Ledgers.row(), ONE), 6);
        Ledgers.ill("another storage", Ledgers.script(N, N, N, Ledgers.row(DROP, PUSH_INT, PUSH_NAT, Ledgers.word(36)),
            ONE), 6);
        Ledgers.kept("result and storage", Ledgers.script(Ledgers.TEXT, Ledgers.INT, Ledgers.BOOL,
            Ledgers.row(DROP, PUSH_TRUE, PUSH_INT, Ledgers.word(36)), Ledgers.FALSE));
    }

    private static void inOrder() {
        int[] bad = Ledgers.word(99);
        Ledgers.ill("all wrong", Ledgers.script(bad, bad, bad, bad, bad), 0);
        Ledgers.ill("all but one", Ledgers.script(N, bad, bad, bad, bad), 2);
        Ledgers.ill("all but two", Ledgers.script(N, N, bad, bad, bad), 4);
        Ledgers.ill("all but three", Ledgers.script(N, N, N, bad, bad), 6);
        Ledgers.ill("the end ahead of the value", Ledgers.script(N, N, N, Ledgers.row(DROP), bad), 6);
        Ledgers.ill("the value alone", Ledgers.script(N, N, N, Ledgers.row(), bad), 8);
        Ledgers.ill("the value of code that FAILED", Ledgers.script(N, N, N, Ledgers.row(FAIL), bad), 10);
    }
}
