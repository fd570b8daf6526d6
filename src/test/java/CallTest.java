import java.math.BigInteger;

/** Promise 5: call. */
public final class CallTest extends Ledgers {
    private static final int[] N = Ledgers.NAT;
    private static final int[] I = Ledgers.INT;
    private static final int[] B = Ledgers.BOOL;
    private static final int[] T = Ledgers.TEXT;
    private static final int[] U = Ledgers.UNIT;

    public static void main(String[] args) {
        stackInstructions();
        optionsAndOrs();
        lists();
        maps();
        bools();
        sumsOfTwo();
        oneNumber();
        comparisons();
        texts();
        loops();
        belowStays();
        failing();
        wrongArguments();
        costs();
        costOfUpdates();
        sizesOfNumbers();
        sizesOfResults();
        leavesAllAsItWas();
        Ledgers.end();
    }

    private static void stackInstructions() {
        int[] pair = Ledgers.pairType(N, T);
        int[] value = Ledgers.pair(Ledgers.num(7), Ledgers.text("x"));
        gives(pair, N, value, Ledgers.num(7), 1, Ledgers.word(37));
        gives(pair, T, value, Ledgers.text("x"), 1, Ledgers.word(38));
        gives(pair, Ledgers.pairType(T, N), value, Ledgers.pair(Ledgers.text("x"), Ledgers.num(7)), 5,
            DUP, Ledgers.word(37), SWAP, Ledgers.word(38), Ledgers.word(36));
        gives(N, N, Ledgers.num(3), Ledgers.num(3), 2, DUP, DROP);
        gives(N, Ledgers.pairType(N, N), Ledgers.num(3), Ledgers.pair(Ledgers.num(9), Ledgers.num(3)), 2,
            Ledgers.push(N, Ledgers.num(9)), Ledgers.word(36));
        gives(N, Ledgers.pairType(U, N), Ledgers.num(3), Ledgers.pair(Ledgers.THE_UNIT, Ledgers.num(3)), 2,
            Ledgers.word(35), Ledgers.word(36));
        // DIP adds below the text that it holds.
        gives(N, Ledgers.pairType(T, N), Ledgers.num(3), Ledgers.pair(Ledgers.text("t"), Ledgers.num(6)), 5,
            Ledgers.push(T, Ledgers.text("t")), Ledgers.word(33, Ledgers.row(DUP, Ledgers.word(60))), Ledgers.word(36));
    }

    private static void optionsAndOrs() {
        int[] option = Ledgers.optionType(N);
        gives(N, option, Ledgers.num(3), Ledgers.some(Ledgers.num(3)), 1, Ledgers.word(39));
        gives(N, option, Ledgers.num(3), Ledgers.NO_VALUE, 2, DROP, Ledgers.word(40, N));
        int[] orZero = Ledgers.word(41, Ledgers.row(Ledgers.push(N, Ledgers.num(0))),
            Ledgers.row(DUP, Ledgers.word(60)));
        gives(option, N, Ledgers.NO_VALUE, Ledgers.num(0), 2, orZero);
        gives(option, N, Ledgers.some(Ledgers.num(5)), Ledgers.num(10), 3, orZero);
        int[] or = Ledgers.orType(N, T);
        gives(N, or, Ledgers.num(3), Ledgers.left(Ledgers.num(3)), 1, Ledgers.word(42, T));
        gives(T, or, Ledgers.text("q"), Ledgers.right(Ledgers.text("q")), 1, Ledgers.word(43, N));
        int[] size = Ledgers.word(44, Ledgers.row(), Ledgers.row(Ledgers.word(48)));
        gives(or, N, Ledgers.left(Ledgers.num(9)), Ledgers.num(9), 1, size);
        gives(or, N, Ledgers.right(Ledgers.text("abc")), Ledgers.num(3), 2, size);
    }

    private static void lists() {
        int[] list = Ledgers.listType(N);
        gives(N, list, Ledgers.num(3), numbers(3), 3, Ledgers.word(45, N), SWAP, Ledgers.word(46));
        gives(N, list, Ledgers.num(3), numbers(), 2, DROP, Ledgers.word(45, N));
        gives(list, list, numbers(1, 2), numbers(8, 1, 2), 2, Ledgers.push(N, Ledgers.num(8)), Ledgers.word(46));
        int[] pairUp = Ledgers.word(47, Ledgers.row(Ledgers.word(36)), Ledgers.row(Ledgers.push(
            Ledgers.pairType(N, list), Ledgers.pair(Ledgers.num(99), numbers()))));
        gives(list, Ledgers.pairType(N, list), numbers(4, 5, 6), Ledgers.pair(Ledgers.num(4), numbers(5, 6)), 2, pairUp);
        gives(list, Ledgers.pairType(N, list), numbers(), Ledgers.pair(Ledgers.num(99), numbers()), 2, pairUp);
        gives(list, N, numbers(), Ledgers.num(0), 1, Ledgers.word(48));
        gives(list, N, numbers(4, 5, 6), Ledgers.num(3), 1, Ledgers.word(48));
        int[] nil = Ledgers.word(45, N);
        // The reverse, by ITER.
        gives(list, list, numbers(1, 2, 3), numbers(3, 2, 1), 3 + 3 * 2,
            nil, SWAP, Ledgers.word(49, Ledgers.row(Ledgers.word(46))));
        gives(list, list, numbers(), numbers(), 3, nil, SWAP, Ledgers.word(49, Ledgers.row(Ledgers.word(46))));
        // Squares, by MAP; what is below may be read and changed.
        gives(list, list, numbers(1, 2, 3), numbers(1, 4, 9), 1 + 3 * 3,
            Ledgers.word(50, Ledgers.row(DUP, Ledgers.word(62))));
        gives(list, list, numbers(), numbers(), 1, Ledgers.word(50, Ledgers.row(DUP, Ledgers.word(62))));
        int[] plusTotal = Ledgers.row(Ledgers.word(60), DUP);
        gives(list, Ledgers.pairType(list, N), numbers(5, 6, 7), Ledgers.pair(numbers(5, 11, 18), Ledgers.num(18)),
            4 + 3 * 3, Ledgers.push(N, Ledgers.num(0)), SWAP, Ledgers.word(50, plusTotal), Ledgers.word(36));
        gives(list, Ledgers.listType(B), numbers(5, 6), Ledgers.row(Ledgers.TRUE, Ledgers.TRUE), 1 + 2 * 3,
            Ledgers.word(50, Ledgers.row(DROP, Ledgers.push(B, Ledgers.TRUE))));
    }

    private static void maps() {
        int[] map = Ledgers.mapType(I, N);
        int[] value = map(-5, 1, 0, 2, 7, 3);
        gives(N, map, Ledgers.num(1), map(), 2, DROP, Ledgers.word(51, I, N));
        gives(map, N, value, Ledgers.num(3), 1, Ledgers.word(48));
        int[] keys = {-6, -5, -1, 0, 5, 7, 8};
        for (int key : keys) {
            int at = key == -5 ? 1 : key == 0 ? 2 : key == 7 ? 3 : 0;
            int[] push = Ledgers.push(I, Ledgers.num(key));
            gives(map, Ledgers.optionType(N), value, at == 0 ? Ledgers.NO_VALUE : Ledgers.some(Ledgers.num(at)), 2,
                push, Ledgers.word(52));
            gives(map, B, value, at == 0 ? Ledgers.FALSE : Ledgers.TRUE, 2, push, Ledgers.word(54));
        }
        updates(map, value, -6, map(-6, 9, -5, 1, 0, 2, 7, 3), value);
        updates(map, value, -5, map(-5, 9, 0, 2, 7, 3), map(0, 2, 7, 3));
        updates(map, value, -1, map(-5, 1, -1, 9, 0, 2, 7, 3), value);
        updates(map, value, 0, map(-5, 1, 0, 9, 7, 3), map(-5, 1, 7, 3));
        updates(map, value, 7, map(-5, 1, 0, 2, 7, 9), map(-5, 1, 0, 2));
        updates(map, value, 8, map(-5, 1, 0, 2, 7, 3, 8, 9), value);
        updates(map, map(), 3, map(3, 9), map());
        // The pairs of an ITER over a map come by ascending keys, so a list of them has the greatest in front.
        int[] pairs = Ledgers.pairType(I, N);
        gives(map, Ledgers.listType(pairs), value,
            Ledgers.row(Ledgers.pair(Ledgers.num(7), Ledgers.num(3)), Ledgers.pair(Ledgers.num(0), Ledgers.num(2)),
                Ledgers.pair(Ledgers.num(-5), Ledgers.num(1))),
            3 + 3 * 2, Ledgers.word(45, pairs), SWAP, Ledgers.word(49, Ledgers.row(Ledgers.word(46))));
        oldMapStays(map, value);
    }

    private static void updates(int[] map, int[] value, int key, int[] with, int[] without) {
        int n = value[1];
        int[] push = Ledgers.push(I, Ledgers.num(key));
        gives(map, map, value, with, 3 + n, Ledgers.push(Ledgers.optionType(N), Ledgers.some(Ledgers.num(9))), push,
            Ledgers.word(53));
        gives(map, map, value, without, 3 + n, Ledgers.word(40, N), push, Ledgers.word(53));
    }

    private static void oldMapStays(int[] map, int[] value) {
        gives(map, Ledgers.pairType(map, map), value, Ledgers.pair(map(-5, 1, 7, 3), value), 5 + 3,
            DUP, Ledgers.word(40, N), Ledgers.push(I, Ledgers.num(0)), Ledgers.word(53), Ledgers.word(36));
    }

    private static void bools() {
        int[][] both = {Ledgers.FALSE, Ledgers.TRUE};
        for (int x = 0; x < 2; x++) {
            for (int y = 0; y < 2; y++) {
                gives(B, B, both[x], both[x & y], 2, Ledgers.push(B, both[y]), Ledgers.word(55));
                gives(B, B, both[x], both[x | y], 2, Ledgers.push(B, both[y]), Ledgers.word(56));
            }
            gives(B, B, both[x], both[1 - x], 1, Ledgers.word(57));
            gives(B, N, both[x], Ledgers.num(x), 2, Ledgers.word(58, Ledgers.row(Ledgers.push(N, Ledgers.num(1))),
                Ledgers.row(Ledgers.push(N, Ledgers.num(0)))));
        }
    }

    private static final BigInteger[] SAMPLES = {
        BigInteger.ZERO, BigInteger.ONE, BigInteger.valueOf(2), BigInteger.valueOf(3), BigInteger.valueOf(7),
        BigInteger.valueOf(63), BigInteger.valueOf(64), BigInteger.valueOf(1000003),
        BigInteger.ONE.shiftLeft(30).subtract(BigInteger.ONE), BigInteger.ONE.shiftLeft(30),
        BigInteger.ONE.shiftLeft(59), BigInteger.ONE.shiftLeft(60).subtract(BigInteger.ONE),
        BigInteger.ONE.shiftLeft(60), BigInteger.ONE.shiftLeft(60).add(BigInteger.ONE),
        BigInteger.ONE.shiftLeft(64).subtract(BigInteger.valueOf(59)), BigInteger.ONE.shiftLeft(90),
        BigInteger.ONE.shiftLeft(119), BigInteger.ONE.shiftLeft(120).subtract(BigInteger.ONE),
        new BigInteger("123456789012345678901234567890123456"), new BigInteger("987654321098765432109876543210")
    };

    /** What is due for two numbers: the result's node, or SIZE. */
    private static int[] sized(BigInteger number) {
        return number.abs().bitLength() <= 120 ? Ledgers.num(number) : null;
    }

    private static int[] euclid(BigInteger x, BigInteger y) {
        if (y.signum() == 0) {
            return Ledgers.NO_VALUE;
        }
        BigInteger r = x.mod(y.abs());
        BigInteger q = x.subtract(r).divide(y);
        return Ledgers.some(Ledgers.pair(Ledgers.num(q), Ledgers.num(r)));
    }

    private static void sumsOfTwo() {
        int[] pair = Ledgers.pairType(I, I);
        int[][] apart = {DUP, Ledgers.word(38), SWAP, Ledgers.word(37)};
        int[] both = Ledgers.optionType(Ledgers.pairType(I, N));
        int[][] scripts = {
            Ledgers.pure(pair, I, apart, Ledgers.steps(60)), Ledgers.pure(pair, I, apart, Ledgers.steps(61)),
            Ledgers.pure(pair, I, apart, Ledgers.steps(62)), Ledgers.pure(pair, both, apart, Ledgers.steps(63))
        };
        for (BigInteger a : SAMPLES) {
            for (BigInteger b : SAMPLES) {
                for (int signs = 0; signs < 4; signs++) {
                    // An object is good for 512 calls, so each has few.
                    PactLedger ledger = new PactLedger();
                    for (int[] script : scripts) {
                        Ledgers.put(ledger, script).deploy();
                    }
                    BigInteger x = (signs & 1) == 0 ? a : a.negate();
                    BigInteger y = (signs & 2) == 0 ? b : b.negate();
                    of(ledger, 0, x, y, sized(x.add(y)));
                    of(ledger, 1, x, y, sized(x.subtract(y)));
                    of(ledger, 2, x, y, sized(x.multiply(y)));
                    of(ledger, 3, x, y, euclid(x, y));
                }
            }
        }
        gives(N, N, Ledgers.num(5), Ledgers.num(12), 2, Ledgers.push(N, Ledgers.num(7)), Ledgers.word(60));
        gives(N, I, Ledgers.num(5), Ledgers.num(2), 2, Ledgers.push(N, Ledgers.num(7)), Ledgers.word(61));
        gives(N, I, Ledgers.num(7), Ledgers.num(-2), 2, Ledgers.push(N, Ledgers.num(5)), Ledgers.word(61));
    }

    private static void of(PactLedger ledger, int c, BigInteger x, BigInteger y, int[] want) {
        String what = "instruction " + (60 + c) + " of " + x + " and " + y;
        int[] parameter = Ledgers.pair(Ledgers.num(x), Ledgers.num(y));
        Ledgers.due(what, Ledgers.call(ledger, c, parameter, 120, 150), want == null ? Ledgers.ARITHMETIC : "9");
        Ledgers.due(what + ", output", Ledgers.output(ledger), want == null ? new int[0] : want);
    }

    private static void oneNumber() {
        int[] numbers = {-1000, -1, 0, 1, 63, 64, 1000};
        for (int n : numbers) {
            gives(I, I, Ledgers.num(n), Ledgers.num(-n), 1, Ledgers.word(64));
            gives(I, N, Ledgers.num(n), Ledgers.num(Math.abs(n)), 1, Ledgers.word(65));
            gives(I, Ledgers.optionType(N), Ledgers.num(n), n < 0 ? Ledgers.NO_VALUE : Ledgers.some(Ledgers.num(n)), 1,
                Ledgers.word(66));
            boolean[] tests = {n == 0, n != 0, n < 0, n > 0, n <= 0, n >= 0};
            for (int i = 0; i < tests.length; i++) {
                gives(I, B, Ledgers.num(n), tests[i] ? Ledgers.TRUE : Ledgers.FALSE, 1, Ledgers.word(69 + i));
            }
        }
        gives(N, I, Ledgers.num(5), Ledgers.num(5), 1, Ledgers.word(67));
        gives(N, I, Ledgers.num(5), Ledgers.num(-5), 1, Ledgers.word(64));
        int[] high = Ledgers.num(Ledgers.power(90).negate());
        gives(I, B, high, Ledgers.TRUE, 1, Ledgers.word(71));
        gives(I, B, Ledgers.num(Ledgers.power(90)), Ledgers.TRUE, 1, Ledgers.word(72));
    }

    /** That COMPARE of each two of these, which ascend, tells their order. */
    private static void ascend(int[] type, int[]... values) {
        int[][] apart = {DUP, Ledgers.word(38), SWAP, Ledgers.word(37)};
        int[] script = Ledgers.pure(Ledgers.pairType(type, type), I, apart, Ledgers.steps(68));
        for (int i = 0; i < values.length; i++) {
            PactLedger ledger = Ledgers.deployed(script);
            for (int j = 0; j < values.length; j++) {
                String what = "COMPARE of " + Ledgers.told(values[i]) + " and " + Ledgers.told(values[j]);
                Ledgers.due(what, Ledgers.call(ledger, 0, Ledgers.pair(values[i], values[j]), 1, 150), "9");
                Ledgers.due(what, Ledgers.output(ledger), Ledgers.num(Integer.compare(i, j)));
            }
        }
    }

    private static void comparisons() {
        ascend(B, Ledgers.FALSE, Ledgers.TRUE);
        ascend(I, Ledgers.num(Ledgers.power(119).negate()), Ledgers.num(Ledgers.power(60).negate()),
            Ledgers.num(Ledgers.power(60).negate().add(BigInteger.ONE)), Ledgers.num(-1), Ledgers.num(0),
            Ledgers.num(1), Ledgers.num(Ledgers.power(60).subtract(BigInteger.ONE)), Ledgers.num(Ledgers.power(60)),
            Ledgers.num(Ledgers.power(119)));
        ascend(N, Ledgers.num(0), Ledgers.num(1), Ledgers.num(100));
        ascend(T, Ledgers.text(""), Ledgers.text(" "), Ledgers.text("  "), Ledgers.text("A"), Ledgers.text("AB"),
            Ledgers.text("B"), Ledgers.text("BBBBBBBB"), Ledgers.text("BBBBBBBC"), Ledgers.text("~"));
        ascend(Ledgers.pairType(N, Ledgers.pairType(B, T)),
            Ledgers.pair(Ledgers.num(1), Ledgers.pair(Ledgers.FALSE, Ledgers.text("z"))),
            Ledgers.pair(Ledgers.num(1), Ledgers.pair(Ledgers.TRUE, Ledgers.text("a"))),
            Ledgers.pair(Ledgers.num(1), Ledgers.pair(Ledgers.TRUE, Ledgers.text("b"))),
            Ledgers.pair(Ledgers.num(2), Ledgers.pair(Ledgers.FALSE, Ledgers.text(""))));
    }

    private static void texts() {
        gives(T, T, Ledgers.text("ab"), Ledgers.text("xyzab"), 2, Ledgers.push(T, Ledgers.text("xyz")),
            Ledgers.word(75));
        gives(T, T, Ledgers.text("12345678"), Ledgers.text("12345678"), 2, Ledgers.push(T, Ledgers.text("")),
            Ledgers.word(75));
        gives(T, T, Ledgers.text(""), Ledgers.text("12345678"), 2, Ledgers.push(T, Ledgers.text("12345678")),
            Ledgers.word(75));
        gives(T, T, Ledgers.text("5678"), Ledgers.text("12345678"), 2, Ledgers.push(T, Ledgers.text("1234")),
            Ledgers.word(75));
        gives(T, N, Ledgers.text("5678"), Ledgers.num(4), 1, Ledgers.word(48));
        PactLedger ledger = Ledgers.deployed(Ledgers.pure(T, T, Ledgers.steps(31, 75)));
        Ledgers.due("8 by CONCAT", Ledgers.call(ledger, 0, Ledgers.text("abcd"), 1, 150), "6");
        Ledgers.due("output", Ledgers.output(ledger), Ledgers.text("abcdabcd"));
        Ledgers.due("10 by CONCAT", Ledgers.call(ledger, 0, Ledgers.text("abcde"), 1, 150), Ledgers.ARITHMETIC);
        Ledgers.due("output", Ledgers.output(ledger), new int[0]);
    }

    private static void loops() {
        // Counts down from the parameter, which must be above 0.
        int[] body = Ledgers.row(Ledgers.push(I, Ledgers.num(-1)), Ledgers.word(60), DUP, Ledgers.word(72));
        for (int n = 1; n < 5; n++) {
            gives(I, I, Ledgers.num(n), Ledgers.num(0), 2 + 5 * n, Ledgers.push(B, Ledgers.TRUE), Ledgers.word(59, body));
        }
        gives(I, I, Ledgers.num(9), Ledgers.num(9), 2, Ledgers.push(B, Ledgers.FALSE), Ledgers.word(59, body));
        int[] forever = Ledgers.word(59, Ledgers.row(Ledgers.push(B, Ledgers.TRUE)));
        PactLedger ledger = Ledgers.deployed(Ledgers.pure(I, I, Ledgers.step(Ledgers.push(B, Ledgers.TRUE)),
            Ledgers.step(forever)));
        Ledgers.due("LOOP without end", Ledgers.call(ledger, 0, Ledgers.num(1), 1, 150), Ledgers.ILLEGAL_STATE);
    }

    /** That a branch or a loop on the parameter leaves a NAT, and what is below it is as it was. */
    private static void below(int[] type, int[] value, int want, int cost, int[]... code) {
        int[][] before = {Ledgers.push(T, Ledgers.text("below")), SWAP};
        PactLedger ledger = Ledgers.deployed(
            Ledgers.pure(type, Ledgers.pairType(N, T), before, code, Ledgers.steps(36)));
        String what = "call with " + Ledgers.told(value) + " of " + Ledgers.told(Ledgers.row(code));
        Ledgers.due(what, Ledgers.call(ledger, 0, value, 120, 150), Integer.toString(cost + 7));
        Ledgers.due(what, Ledgers.output(ledger), Ledgers.pair(Ledgers.num(want), Ledgers.text("below")));
    }

    private static void belowStays() {
        int[] one = Ledgers.push(N, Ledgers.num(1));
        int[] two = Ledgers.push(N, Ledgers.num(2));
        int[] ones = Ledgers.row(one);
        int[] twos = Ledgers.row(two);
        int[] keep = Ledgers.row();
        below(B, Ledgers.TRUE, 1, 2, Ledgers.word(58, ones, twos));
        below(B, Ledgers.FALSE, 2, 2, Ledgers.word(58, ones, twos));
        below(Ledgers.optionType(N), Ledgers.NO_VALUE, 1, 2, Ledgers.word(41, ones, keep));
        below(Ledgers.optionType(N), Ledgers.some(Ledgers.num(7)), 7, 1, Ledgers.word(41, ones, keep));
        int[] either = Ledgers.word(44, keep, Ledgers.row(DROP, two));
        below(Ledgers.orType(N, B), Ledgers.left(Ledgers.num(7)), 7, 1, either);
        below(Ledgers.orType(N, B), Ledgers.right(Ledgers.TRUE), 2, 3, either);
        int[] list = Ledgers.listType(N);
        int[] head = Ledgers.word(47, Ledgers.row(SWAP, DROP), ones);
        below(list, numbers(5, 6), 5, 3, head);
        below(list, numbers(), 1, 2, head);
        below(list, numbers(5, 6), 1, 6, Ledgers.word(49, Ledgers.row(DROP)), one);
        below(list, numbers(5, 6), 2, 4, Ledgers.word(50, keep), Ledgers.word(48));
        below(B, Ledgers.TRUE, 1, 4, Ledgers.word(59, Ledgers.row(Ledgers.push(B, Ledgers.FALSE))), one);
        below(B, Ledgers.FALSE, 1, 2, Ledgers.word(59, Ledgers.row(Ledgers.push(B, Ledgers.FALSE))), one);
        below(N, Ledgers.num(3), 6, 3, Ledgers.word(33, keep), DUP, Ledgers.word(60));
    }

    private static void failing() {
        int[][] types = {U, B, I, N, T, Ledgers.pairType(N, Ledgers.pairType(T, B))};
        int[][] values = {
            Ledgers.THE_UNIT, Ledgers.TRUE, Ledgers.num(-77), Ledgers.num(8192), Ledgers.text("why"),
            Ledgers.pair(Ledgers.num(1), Ledgers.pair(Ledgers.text(""), Ledgers.FALSE))
        };
        for (int i = 0; i < types.length; i++) {
            PactLedger ledger = Ledgers.deployed(Ledgers.script(types[i], N, N, Ledgers.code(Ledgers.steps(37, 76)),
                Ledgers.num(5)));
            Ledgers.due("FAIL", Ledgers.call(ledger, 0, values[i], 1, 2), Ledgers.UNSUPPORTED);
            Ledgers.due("output", Ledgers.output(ledger), values[i]);
            Ledgers.due("wrong()", ledger.wrong(), -1);
            Ledgers.due("calls", ledger.about(0, 2), 0);
            Ledgers.due("COST ahead of FAIL", Ledgers.call(ledger, 0, values[i], 1, 1), Ledgers.ILLEGAL_STATE);
            Ledgers.due("output", Ledgers.output(ledger), new int[0]);
        }
        longestFail();
    }

    private static void longestFail() {
        // Seven times DUP and PAIR: 128 of the longest number, in pairs 8 deep.
        int[][] doubled = Ledgers.steps(37, 31, 36, 31, 36, 31, 36, 31, 36, 31, 36, 31, 36, 31, 36, 76);
        PactLedger ledger = Ledgers.deployed(Ledgers.script(I, N, N, Ledgers.code(doubled), Ledgers.num(5)));
        int[] want = Ledgers.num(Ledgers.power(120).subtract(BigInteger.ONE).negate());
        Ledgers.due("FAIL", Ledgers.call(ledger, 0, want, 1, 150), Ledgers.UNSUPPORTED);
        for (int i = 0; i < 7; i++) {
            want = Ledgers.pair(want, want);
        }
        // The first and the last ones alone, for an object is good for 512 calls.
        Ledgers.due("bytes of the output", ledger.count(2), want.length);
        for (int i = 0; i < 200; i++) {
            Ledgers.due("octet", ledger.octet(i), want[i]);
            Ledgers.due("octet", ledger.octet(want.length - 1 - i), want[want.length - 1 - i]);
        }
        Ledgers.due("octet behind the last one", ledger.octet(want.length), -1);
    }

    private static void wrongArguments() {
        PactLedger ledger = Ledgers.deployed(Ledgers.echo(N, N, Ledgers.num(5)));
        int[][] wrong = {
            {-1, 1, 1}, {1, 1, 1}, {4, 1, 1}, {Integer.MAX_VALUE, 1, 1}, {Integer.MIN_VALUE, 1, 1}, {0, 0, 1},
            {0, 121, 1}, {0, -1, 1}, {0, Integer.MAX_VALUE, 1}, {0, Integer.MIN_VALUE, 1}, {0, 1, 0}, {0, 1, 151},
            {0, 1, -1}, {0, 1, Integer.MAX_VALUE}, {0, 1, Integer.MIN_VALUE}
        };
        for (int[] w : wrong) {
            ledger.storage(0);
            ledger.put(3, 1);
            Ledgers.due("call" + Ledgers.told(w), Ledgers.answer(() -> ledger.call(w[0], w[1], w[2])),
                Ledgers.ILLEGAL_ARGUMENT);
            Ledgers.due("wrong(), which did not look", ledger.wrong(), -1);
            Ledgers.due("buffer", ledger.count(1), 0);
            Ledgers.due("output", ledger.count(2), 0);
        }
        Ledgers.due("the least bounds", Ledgers.call(ledger, 0, Ledgers.num(8), 1, 1), "0");
        Ledgers.due("the greatest bounds", Ledgers.call(ledger, 0, Ledgers.num(8), 120, 150), "0");
        int[][] values = {{}, {9}, {0, 65}, {4, 20}, {0, 1, 0, 1}, {0, 1, 3}};
        int[] places = {0, 0, 0, 0, 2, 2};
        for (int i = 0; i < values.length; i++) {
            ledger.storage(0);
            Ledgers.due("call with " + Ledgers.told(values[i]), Ledgers.call(ledger, 0, values[i], 9, 9),
                Ledgers.ILLEGAL_ARGUMENT);
            Ledgers.due("wrong()", ledger.wrong(), places[i]);
            Ledgers.due("output", ledger.count(2), 0);
            Ledgers.due("buffer", ledger.count(1), 0);
        }
    }

    /** That this cost is the least bound for a call. */
    private static void costs(int cost, int[] script, int[] parameter) {
        PactLedger ledger = Ledgers.deployed(script);
        Ledgers.due("one less than " + cost, Ledgers.call(ledger, 0, parameter, 120, cost - 1), Ledgers.ILLEGAL_STATE);
        Ledgers.due("output", ledger.count(2), 0);
        Ledgers.due("wrong()", ledger.wrong(), -1);
        Ledgers.due("costs", ledger.about(0, 3), 0);
        Ledgers.due("just " + cost, Ledgers.call(ledger, 0, parameter, 120, cost), Integer.toString(cost));
        Ledgers.due("costs", ledger.about(0, 3), cost);
    }

    private static void costs() {
        int[] list = Ledgers.listType(N);
        costs(4, Ledgers.pure(N, N), Ledgers.num(1));
        int[] iter = Ledgers.word(49, Ledgers.row(DROP));
        costs(4 + 2 + 3 * 2, Ledgers.pure(list, U, Ledgers.step(iter), Ledgers.steps(35)), numbers(1, 2, 3));
        int[] idle = Ledgers.word(50, Ledgers.row());
        costs(4 + 1 + 3, Ledgers.pure(list, list, Ledgers.step(idle)), numbers(1, 2, 3));
        int[] once = Ledgers.word(59, Ledgers.row(Ledgers.push(B, Ledgers.FALSE)));
        costs(4 + 2 + 2, Ledgers.pure(N, N, Ledgers.step(Ledgers.push(B, Ledgers.TRUE)), Ledgers.step(once)),
            Ledgers.num(1));
        int[] dip = Ledgers.word(33, Ledgers.row(DUP, DROP));
        costs(4 + 5, Ledgers.pure(N, N, Ledgers.steps(31), Ledgers.step(dip), Ledgers.steps(30)), Ledgers.num(1));
        int[] branch = Ledgers.word(58, Ledgers.row(), Ledgers.row(DUP, DROP));
        costs(4 + 4, Ledgers.pure(B, B, Ledgers.steps(31), Ledgers.step(branch)), Ledgers.FALSE);
        costs(4 + 2, Ledgers.pure(B, B, Ledgers.steps(31), Ledgers.step(branch)), Ledgers.TRUE);
    }

    private static void costOfUpdates() {
        int[] put = Ledgers.push(Ledgers.optionType(N), Ledgers.some(Ledgers.num(9)));
        int[] delete = Ledgers.word(40, N);
        int[][] values = {map(), map(5, 1), map(1, 1, 2, 2, 3, 3)};
        for (int[] value : values) {
            int n = value[1];
            int[] storage = Ledgers.pair(value, Ledgers.num(1));
            int[] mapType = Ledgers.pairType(Ledgers.mapType(N, N), N);
            int[] bigType = Ledgers.pairType(Ledgers.bigType(N, N), N);
            int[][] options = {put, delete};
            for (int[] option : options) {
                for (int key = 0; key < 7; key += 2) {
                    costs(14 + n, Ledgers.script(N, U, mapType, Ledgers.updating(option), storage), Ledgers.num(key));
                    costs(14, Ledgers.script(N, U, bigType, Ledgers.updating(option), storage), Ledgers.num(key));
                }
            }
        }
    }

    private static void size(int code, long x, long y, int bits, boolean right) {
        int[] result = code == 63 ? Ledgers.optionType(Ledgers.pairType(I, N)) : I;
        PactLedger ledger = Ledgers.deployed(Ledgers.pure(I, result,
            Ledgers.step(Ledgers.push(I, Ledgers.num(x))), Ledgers.steps(code)));
        String what = "instruction " + code + " of " + x + " and " + y + " within " + bits + " bits";
        Ledgers.due(what, Ledgers.call(ledger, 0, Ledgers.num(y), bits, 150), right ? "6" : Ledgers.ARITHMETIC);
        Ledgers.due(what + ": wrong()", ledger.wrong(), -1);
        Ledgers.due(what + ": output", ledger.count(2) > 0 ? 1 : 0, right ? 1 : 0);
    }

    private static void sizesOfNumbers() {
        size(60, 3, 4, 3, true);
        size(60, 4, 4, 3, false);
        size(60, -3, -4, 3, true);
        size(60, -4, -4, 3, false);
        size(60, 1000, -1000, 1, true);
        size(61, 3, -4, 3, true);
        size(61, -4, 4, 3, false);
        size(62, 3, 5, 4, true);
        size(62, -4, 4, 4, false);
        size(62, 0, 1000, 1, true);
        size(63, 1000, 0, 1, true);
        size(63, 17, 5, 2, true);
        size(63, 21, 5, 2, false);
        // The q is -4 then, though without its rest it were -3.
        size(63, -17, 5, 2, false);
        size(63, -17, 5, 3, true);
        // The q is 0, the r is too large.
        size(63, 9, 10, 3, false);
        size(63, 9, 10, 4, true);
        size(60, 1L << 58, 1L << 58, 59, false);
        size(60, 1L << 58, 1L << 58, 60, true);
        size(60, 1L << 59, 1L << 59, 60, false);
        size(60, 1L << 59, 1L << 59, 61, true);
        size(62, 1L << 40, 1L << 40, 80, false);
        size(62, 1L << 40, 1L << 40, 81, true);
        // NEG, ABS, PUSH and what comes from outside have no bound of bits.
        PactLedger ledger = Ledgers.deployed(Ledgers.pure(I, N, Ledgers.steps(64, 65)));
        Ledgers.due("NEG and ABS", Ledgers.call(ledger, 0, Ledgers.num(1000), 1, 150), "6");
    }

    private static void result(String what, int[] script, int[] parameter, boolean right) {
        PactLedger ledger = Ledgers.deployed(script);
        String answer = Ledgers.call(ledger, 0, parameter, 120, 150);
        Ledgers.due(what, answer.equals(Ledgers.ARITHMETIC) ? 0 : answer.startsWith("throws") ? -1 : 1, right ? 1 : 0);
        Ledgers.due(what + ": calls", ledger.about(0, 2), right ? 1 : 0);
        Ledgers.due(what + ": output", ledger.count(2) > 0 ? 1 : 0, right ? 1 : 0);
    }

    private static void sizesOfResults() {
        int[] list = Ledgers.listType(U);
        int[] push = Ledgers.word(35);
        int[][] add = {push, Ledgers.word(46)};
        result("40 in a row", Ledgers.pure(list, list, add), Ledgers.many(39, Ledgers.THE_UNIT), true);
        result("41 in a row", Ledgers.pure(list, list, add), Ledgers.many(40, Ledgers.THE_UNIT), false);
        int[] inner = Ledgers.optionType(list);
        result("41 in an inner row", Ledgers.pure(list, inner, add, Ledgers.steps(39)),
            Ledgers.many(40, Ledgers.THE_UNIT), false);
        // 33 nodes three times and two words of pairs: 101.
        int[] three = Ledgers.pairType(list, Ledgers.pairType(list, list));
        int[][] thrice = Ledgers.steps(31, 31, 36, 32, 36);
        result("101 nodes", Ledgers.pure(list, Ledgers.pairType(list, Ledgers.pairType(list, list)), thrice),
            Ledgers.many(32, Ledgers.THE_UNIT), false);
        result("98 nodes", Ledgers.pure(list, three, thrice), Ledgers.many(31, Ledgers.THE_UNIT), true);
        // 49 nodes twice, a word of a pair and one of an option: 100; one word more: 101.
        int[] most = Ledgers.row(Ledgers.many(24, Ledgers.THE_UNIT), Ledgers.many(22, Ledgers.THE_UNIT));
        int[] lists = Ledgers.listType(list);
        int[] pairs = Ledgers.pairType(lists, lists);
        int[] stored = Ledgers.optionType(pairs);
        result("a storage of 100 nodes", Ledgers.script(lists, U, stored,
            Ledgers.code(Ledgers.steps(37, 31, 36, 39, 35, 36)), Ledgers.NO_VALUE), most, true);
        int[] more = Ledgers.optionType(stored);
        result("a storage of 101 nodes", Ledgers.script(lists, U, more,
            Ledgers.code(Ledgers.steps(37, 31, 36, 39, 39, 35, 36)), Ledgers.NO_VALUE), most, false);
        result("100 nodes", Ledgers.pure(lists, Ledgers.optionType(pairs), Ledgers.steps(31, 36, 39)), most, true);
        result("101 nodes", Ledgers.pure(lists, Ledgers.optionType(Ledgers.optionType(pairs)),
            Ledgers.steps(31, 36, 39, 39)), most, false);
        storages(list, add);
        bigs();
        largeOnesThatGo(list, add);
    }

    private static void storages(int[] list, int[][] add) {
        // The parameter, and one more, becomes the storage.
        int[] code = Ledgers.code(Ledgers.steps(37), add, Ledgers.steps(35, 36));
        result("a storage of 40", Ledgers.script(list, U, list, code, Ledgers.row()),
            Ledgers.many(39, Ledgers.THE_UNIT), true);
        result("a storage of 41", Ledgers.script(list, U, list, code, Ledgers.row()),
            Ledgers.many(40, Ledgers.THE_UNIT), false);
    }

    /** A BIG that 33 calls fill, three nodes for each key; then it, its pair and what is second in it are 102. */
    private static void bigs() {
        int[] big = Ledgers.pairType(Ledgers.bigType(N, N), N);
        int[] put = Ledgers.push(Ledgers.optionType(N), Ledgers.some(Ledgers.num(1)));
        PactLedger ledger = Ledgers.deployed(Ledgers.script(N, U, big, Ledgers.updating(put),
            Ledgers.pair(Ledgers.row(), Ledgers.num(1))));
        for (int i = 1; i <= 32; i++) {
            Ledgers.due("key " + i, Ledgers.call(ledger, 0, Ledgers.num(i), 1, 150), "14");
            Ledgers.due("nodes", ledger.about(0, 5), 3 + 3 * i);
        }
        Ledgers.due("key 33", Ledgers.call(ledger, 0, Ledgers.num(33), 1, 150), Ledgers.ARITHMETIC);
        Ledgers.due("keys", ledger.about(0, 4), 32);
        Ledgers.due("nodes", ledger.about(0, 5), 99);
        Ledgers.due("a key that was there", Ledgers.call(ledger, 0, Ledgers.num(32), 1, 150), "14");
    }

    private static void largeOnesThatGo(int[] list, int[][] add) {
        PactLedger ledger = Ledgers.deployed(Ledgers.pure(list, N, add, add, Ledgers.steps(48)));
        Ledgers.due("a list of 42", Ledgers.call(ledger, 0, Ledgers.many(40, Ledgers.THE_UNIT), 1, 150), "9");
        Ledgers.due("output", Ledgers.output(ledger), Ledgers.num(42));
    }

    /** Adds the parameter to the storage, which is the result too, and then divides 100 by it, or FAILs. */
    private static void leavesAllAsItWas() {
        int[] code = Ledgers.code(Ledgers.steps(31, 37, 32, 38, 60, 31), Ledgers.step(Ledgers.push(I, Ledgers.num(100))),
            Ledgers.steps(63), Ledgers.step(Ledgers.word(41, Ledgers.row(Ledgers.push(T, Ledgers.text("zero")),
                Ledgers.word(76)), Ledgers.row(DROP, DUP, Ledgers.word(36)))));
        PactLedger ledger = Ledgers.deployed(Ledgers.script(I, I, I, code, Ledgers.num(10)));
        unchanged(ledger, Ledgers.num(-10), 120, 150, Ledgers.UNSUPPORTED, Ledgers.text("zero"));
        unchanged(ledger, Ledgers.num(5), 120, 11, Ledgers.ILLEGAL_STATE, new int[0]);
        unchanged(ledger, Ledgers.num(1 << 20), 20, 150, Ledgers.ARITHMETIC, new int[0]);
        unchanged(ledger, Ledgers.text("5"), 120, 150, Ledgers.ILLEGAL_ARGUMENT, new int[0]);
        Ledgers.due("call", Ledgers.call(ledger, 0, Ledgers.num(5), 120, 12), "12");
        Ledgers.due("output", Ledgers.output(ledger), Ledgers.num(15));
        Ledgers.due("storage", Ledgers.storage(ledger, 0), Ledgers.num(15));
    }

    private static void unchanged(PactLedger ledger, int[] parameter, int bits, int cost, String how, int[] output) {
        ledger.storage(0);
        Ledgers.due("call", Ledgers.call(ledger, 0, parameter, bits, cost), how);
        Ledgers.due("output", Ledgers.output(ledger), output);
        Ledgers.due("storage", Ledgers.storage(ledger, 0), Ledgers.num(10));
        Ledgers.due("calls", ledger.about(0, 2), 0);
        Ledgers.due("costs", ledger.about(0, 3), 0);
        Ledgers.due("contracts", ledger.count(0), 1);
        Ledgers.due("buffer", ledger.count(1), 0);
    }
}
