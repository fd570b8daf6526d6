import java.math.BigInteger;

/** Terms, the bounds of what instructions do: what is empty, has one, is 0 or next to it, is there or is not. */
public final class DoingBoundsTest extends Ledgers {
    private static final int[] LISTS = listType(NAT);
    private static final int[] MAPS = mapType(INT, NAT);
    private static final BigInteger MOST = power(120).subtract(BigInteger.ONE);

    public static void main(String[] args) {
        ifnoneOfNone();
        ifleftOfEach();
        ifconsOfEmptyAndOne();
        consOntoEmpty();
        sizeFromEmptyOn();
        iterFromEmptyOn();
        iterOfMapsByAscendingKeys();
        mapFromEmptyOn();
        getAndMemOfEachNeighbour();
        updateOfEachNeighbour();
        updateByKeysOfEachType();
        updateOfABig();
        loopNotAtAllAndOnce();
        edivByZero();
        edivRest();
        edivOfTheGreatest();
        numbersNextToZero();
        sumsAtZeroAndTheGreatest();
        compareNeighbours();
        concatOfEachLength();
        failOfEachType();
        twelveOnTheStack();
        end();
    }

    // "41 IFNONE A B option >: A when it is none, else x comes on, and B"

    private static void ifnoneOfNone() {
        int[] option = optionType(optionType(NAT));
        int[] test = word(41, row(push(NAT, num(7))), row(word(41, row(push(NAT, num(8))), row())));
        gives(option, NAT, NO_VALUE, num(7), 2, test);
        gives(option, NAT, some(NO_VALUE), num(8), 3, test);
        gives(option, NAT, some(some(num(9))), num(9), 2, test);
    }

    // "44 IFLEFT A B or > x, and A when it is the left one, else B"

    private static void ifleftOfEach() {
        int[] or = orType(NAT, NAT);
        int[] test = word(44, row(word(42, NAT)), row(DROP, push(NAT, num(5)), word(42, NAT)));
        gives(or, or, left(num(3)), left(num(3)), 2, test);
        gives(or, or, right(num(3)), left(num(5)), 4, test);
        gives(or, or, left(num(3)), right(num(3)), 2, word(44, row(word(43, NAT)), row(word(42, NAT))));
        gives(or, or, right(num(3)), left(num(3)), 2, word(44, row(word(43, NAT)), row(word(42, NAT))));
    }

    // "47 IFCONS A B list >: when it isn't empty its first > its rest (the first one on top), and A; else B"

    private static void ifconsOfEmptyAndOne() {
        int[] pairs = pairType(NAT, LISTS);
        int[] test = word(47, row(PAIR), row(push(pairs, pair(num(99), numbers(7)))));
        gives(LISTS, pairs, numbers(), pair(num(99), numbers(7)), 2, test);
        gives(LISTS, pairs, numbers(4), pair(num(4), numbers()), 2, test);
        gives(LISTS, pairs, numbers(4, 5), pair(num(4), numbers(5)), 2, test);
        gives(LISTS, pairs, numbers(4, 5, 6), pair(num(4), numbers(5, 6)), 2, test);
        gives(LISTS, NAT, many(40, ONE), num(39), 3, word(47, row(DROP, SIZE), row(push(NAT, num(99)))));
    }

    // "45 NIL t > the empty list of t", "46 CONS x, list > the list with x in front"

    private static void consOntoEmpty() {
        gives(NAT, LISTS, num(3), numbers(), 2, DROP, nil(NAT));
        gives(NAT, LISTS, num(3), numbers(3), 3, nil(NAT), SWAP, CONS);
        gives(LISTS, LISTS, numbers(5), numbers(3, 5), 2, push(NAT, num(3)), CONS);
        gives(LISTS, LISTS, many(39, num(3)), many(40, num(3)), 2, push(NAT, num(3)), CONS);
    }

    // "48 SIZE list, map or text > how many, a NAT"

    private static void sizeFromEmptyOn() {
        int[] lengths = {0, 1, 2, 39, 40};
        for (int n : lengths) {
            gives(LISTS, NAT, many(n, ONE), num(n), 1, SIZE);
            gives(LISTS, NAT, many(n, ONE), num(n + 1), 3, push(NAT, ONE), CONS, SIZE);
        }
        // 63 is the last number of one byte.
        int[][] twice = {DUP, iter(CONS), SIZE};
        gives(LISTS, NAT, many(31, ONE), num(63), 5 + 62, DUP, iter(CONS), push(NAT, ONE), CONS, SIZE);
        gives(LISTS, NAT, many(32, ONE), num(64), 3 + 64, twice);
        gives(LISTS, NAT, many(40, ONE), num(80), 3 + 80, twice);
        for (int n = 0; n <= 8; n++) {
            gives(TEXT, NAT, text("12345678".substring(0, n)), num(n), 1, SIZE);
        }
        gives(MAPS, NAT, map(), num(0), 1, SIZE);
        gives(MAPS, NAT, map(-1, 5), num(1), 1, SIZE);
        gives(MAPS, NAT, map(-1, 5, 0, 5), num(2), 1, SIZE);
        gives(NAT, NAT, num(1), num(0), 3, DROP, word(51, NAT, NAT), SIZE);
    }

    // "49 ITER A list or map >: for each element .. it comes on, and A"

    private static void iterFromEmptyOn() {
        int[][] sum = {push(NAT, num(0)), SWAP, iter(word(60))};
        gives(LISTS, NAT, numbers(), num(0), 3, sum);
        gives(LISTS, NAT, numbers(7), num(7), 3 + 2, sum);
        gives(LISTS, NAT, numbers(7, 8), num(15), 3 + 4, sum);
        gives(LISTS, NAT, many(40, num(2)), num(80), 3 + 80, sum);
        // The last one is on top of those ahead of it.
        gives(LISTS, LISTS, numbers(1, 2, 3), numbers(3, 2, 1), 3 + 6, nil(NAT), SWAP, iter(CONS));
    }

    // "of a map the pair of key and value, the keys ascending"

    private static void iterOfMapsByAscendingKeys() {
        int[] pairs = pairType(INT, NAT);
        int[][] collect = {nil(pairs), SWAP, iter(CONS)};
        gives(MAPS, listType(pairs), map(), row(), 3, collect);
        gives(MAPS, listType(pairs), map(-1, 5), row(pair(num(-1), num(5))), 3 + 2, collect);
        gives(MAPS, listType(pairs), map(-1, 5, 0, 4, 1, 6),
            row(pair(num(1), num(6)), pair(num(0), num(4)), pair(num(-1), num(5))), 3 + 6, collect);
    }

    // "50 MAP A list >: likewise, but A leaves a value on top of it all, which goes off: > the list of these"

    private static void mapFromEmptyOn() {
        int[] twice = mapEach(DUP, word(60));
        gives(LISTS, LISTS, numbers(), numbers(), 1, twice);
        gives(LISTS, LISTS, numbers(7), numbers(14), 1 + 3, twice);
        gives(LISTS, LISTS, numbers(7, 8), numbers(14, 16), 1 + 6, twice);
        gives(LISTS, LISTS, many(40, num(7)), many(40, num(14)), 1 + 120, twice);
        gives(LISTS, listType(BOOL), numbers(), row(), 1, mapEach(DROP, push(BOOL, TRUE)));
    }

    // "52 GET k, map > the option of what it has for the key", "54 MEM k, map > whether it has the key"

    private static void getAndMemOfEachNeighbour() {
        int[] value = map(-1, 7, 1, 8, 64, 9);
        for (int key = -3; key <= 66; key++) {
            int at = key == -1 ? 7 : key == 1 ? 8 : key == 64 ? 9 : 0;
            gives(MAPS, optionType(NAT), value, at == 0 ? NO_VALUE : some(num(at)), 2, push(INT, num(key)), word(52));
            gives(MAPS, BOOL, value, at == 0 ? FALSE : TRUE, 2, push(INT, num(key)), word(54));
        }
        gives(MAPS, optionType(NAT), map(), NO_VALUE, 2, push(INT, num(0)), word(52));
        gives(MAPS, BOOL, map(), FALSE, 2, push(INT, num(0)), word(54));
        // What the map has may itself be none.
        int[] maps = mapType(NAT, optionType(NAT));
        gives(maps, optionType(optionType(NAT)), row(entry(ONE, NO_VALUE)), some(NO_VALUE), 2, push(NAT, ONE), word(52));
        gives(maps, BOOL, row(entry(ONE, NO_VALUE)), TRUE, 2, push(NAT, ONE), word(54));
    }

    private static void updated(int[] value, int key, int[] with, int[] without) {
        int[] push = push(INT, num(key));
        gives(MAPS, MAPS, value, with, 3 + value[1], push(optionType(NAT), some(num(9))), push, word(53));
        gives(MAPS, MAPS, value, without, 3 + value[1], none(NAT), push, word(53));
    }

    // "53 UPDATE k, option, map > the map, with this for the key, or without the key if none"

    private static void updateOfEachNeighbour() {
        updated(map(), 0, map(0, 9), map());
        updated(map(0, 1), -1, map(-1, 9, 0, 1), map(0, 1));
        updated(map(0, 1), 0, map(0, 9), map());
        updated(map(0, 1), 1, map(0, 1, 1, 9), map(0, 1));
        int[] two = map(-2, 1, 2, 3);
        updated(two, -3, map(-3, 9, -2, 1, 2, 3), two);
        updated(two, -2, map(-2, 9, 2, 3), map(2, 3));
        updated(two, -1, map(-2, 1, -1, 9, 2, 3), two);
        updated(two, 0, map(-2, 1, 0, 9, 2, 3), two);
        updated(two, 2, map(-2, 1, 2, 9), map(-2, 1));
        updated(two, 3, map(-2, 1, 2, 3, 3, 9), two);
        int[] maps = mapType(NAT, optionType(NAT));
        gives(maps, maps, row(), row(entry(ONE, NO_VALUE)), 3,
            push(optionType(optionType(NAT)), some(NO_VALUE)), push(NAT, ONE), word(53));
    }

    /** That keys of a type, which ascend, come into a map in whatever order, and go from it. */
    private static void inAndOut(int[] type, int[]... keys) {
        int[] maps = mapType(type, NAT);
        int[] parameter = pairType(type, maps);
        int[][] apart = {DUP, CDR, SWAP, CAR};
        int[][] all = new int[keys.length][];
        for (int i = 0; i < keys.length; i++) {
            all[i] = entry(keys[i], num(9));
        }
        int[] full = row(all);
        for (int i = 0; i < keys.length; i++) {
            int[][] others = new int[keys.length - 1][];
            System.arraycopy(all, 0, others, 0, i);
            System.arraycopy(all, i + 1, others, i, others.length - i);
            int[] less = row(others);
            int[][] put = then(then(apart, dip(push(optionType(NAT), some(num(9))))), word(53));
            gives(parameter, maps, pair(keys[i], less), full, 7 + others.length, put);
            gives(parameter, maps, pair(keys[i], full), full, 7 + keys.length, put);
            int[][] take = then(then(apart, dip(none(NAT))), word(53));
            gives(parameter, maps, pair(keys[i], full), less, 7 + keys.length, take);
            gives(parameter, maps, pair(keys[i], less), less, 7 + others.length, take);
            gives(parameter, BOOL, pair(keys[i], full), TRUE, 5, then(apart, word(54)));
            gives(parameter, BOOL, pair(keys[i], less), FALSE, 5, then(apart, word(54)));
            gives(parameter, optionType(NAT), pair(keys[i], full), some(num(9)), 5, then(apart, word(52)));
            gives(parameter, optionType(NAT), pair(keys[i], less), NO_VALUE, 5, then(apart, word(52)));
        }
    }

    private static void updateByKeysOfEachType() {
        inAndOut(BOOL, FALSE, TRUE);
        inAndOut(INT, num(MOST.negate()), num(-1), num(0), num(1), num(MOST));
        inAndOut(NAT, num(0), num(power(60).subtract(BigInteger.ONE)), num(power(60)), num(MOST));
        inAndOut(TEXT, text(""), text(" "), text("a"), text("aa"), text("b"));
        inAndOut(pairType(NAT, BOOL), pair(num(0), TRUE), pair(num(1), FALSE), pair(num(1), TRUE), pair(num(2), FALSE));
    }

    private static void updateOfABig() {
        int[] type = pairType(bigType(NAT, TEXT), NAT);
        int[] put = push(optionType(TEXT), some(text("x")));
        PactLedger ledger = deployed(script(NAT, UNIT, type, updating(put), pair(row(), ONE)));
        int[] keys = {5, 4, 6, 5, 0};
        int[] counts = {1, 2, 3, 3, 4};
        for (int i = 0; i < keys.length; i++) {
            due("call with " + keys[i], call(ledger, 0, num(keys[i]), 1, 150), "14");
            due("keys", ledger.about(0, 4), counts[i]);
        }
        PactLedger less = deployed(script(NAT, UNIT, type, updating(none(TEXT)),
            pair(row(entry(ONE, text("a"))), ONE)));
        due("call with a key that is not there", call(less, 0, num(2), 1, 150), "14");
        due("keys", less.about(0, 4), 1);
        due("call with the only key", call(less, 0, ONE, 1, 150), "14");
        due("keys", less.about(0, 4), 0);
        due("call with an empty BIG", call(less, 0, ONE, 1, 150), "14");
        due("keys", less.about(0, 4), 0);
    }

    // "59 LOOP A bool >: as long as it was true A"

    private static void loopNotAtAllAndOnce() {
        // Counts down from the parameter as long as it is above 0.
        int[][] code = {DUP, word(72), loop(push(INT, num(-1)), word(60), DUP, word(72))};
        gives(INT, INT, num(-1), num(-1), 3, code);
        gives(INT, INT, num(0), num(0), 3, code);
        gives(INT, INT, num(1), num(0), 3 + 5, code);
        gives(INT, INT, num(2), num(0), 3 + 10, code);
        gives(INT, INT, num(28), num(0), 3 + 140, code);
    }

    /** What EDIV gives for x on top of y, by the document's words: r from 0 up to y without its sign, less one. */
    private static void divides(BigInteger x, BigInteger y) {
        int[] want = NO_VALUE;
        if (y.signum() != 0) {
            BigInteger r = x.mod(y.abs());
            want = some(pair(num(x.subtract(r).divide(y)), num(r)));
        }
        gives(INT, optionType(pairType(INT, NAT)), num(y), want, 2, push(INT, num(x)), word(63));
    }

    // "63 EDIV x, y > none if y is 0"

    private static void edivByZero() {
        int[] numbers = {-64, -1, 0, 1, 64};
        for (int x : numbers) {
            gives(INT, optionType(pairType(INT, NAT)), num(0), NO_VALUE, 2, push(INT, num(x)), word(63));
            gives(NAT, optionType(pairType(INT, NAT)), num(0), NO_VALUE, 2, push(INT, num(x)), word(63));
        }
        gives(NAT, optionType(pairType(NAT, NAT)), num(0), NO_VALUE, 2, push(NAT, ONE), word(63));
    }

    // "r a NAT below y without its sign, x = q * y + r"

    private static void edivRest() {
        for (int x = -13; x <= 13; x++) {
            for (int y = -5; y <= 5; y++) {
                divides(BigInteger.valueOf(x), BigInteger.valueOf(y));
            }
        }
        gives(NAT, optionType(pairType(NAT, NAT)), num(5), some(pair(num(0), num(4))), 2, push(NAT, num(4)), word(63));
        gives(NAT, optionType(pairType(NAT, NAT)), num(5), some(pair(num(1), num(0))), 2, push(NAT, num(5)), word(63));
        gives(NAT, optionType(pairType(NAT, NAT)), num(5), some(pair(num(1), num(1))), 2, push(NAT, num(6)), word(63));
        gives(NAT, optionType(pairType(INT, NAT)), num(5), some(pair(num(-1), num(4))), 2, push(INT, num(-1)), word(63));
    }

    private static void edivOfTheGreatest() {
        BigInteger[] numbers = {MOST, MOST.subtract(BigInteger.ONE), power(119), power(60), BigInteger.TWO, BigInteger.ONE};
        for (BigInteger x : numbers) {
            for (BigInteger y : numbers) {
                divides(x, y);
                divides(x.negate(), y);
                divides(x, y.negate());
                divides(x.negate(), y.negate());
            }
        }
    }

    // "64 NEG x > -x", "65 ABS int", "66 ISNAT int > .. none below 0", "69 EQ .. 74 GE int > whether it is that to 0"

    private static void numbersNextToZero() {
        BigInteger[] numbers = {
            MOST.negate(), power(60).negate(), BigInteger.valueOf(-64), BigInteger.ONE.negate(), BigInteger.ZERO,
            BigInteger.ONE, BigInteger.valueOf(64), power(60), MOST
        };
        for (BigInteger n : numbers) {
            gives(INT, INT, num(n), num(n.negate()), 1, word(64));
            gives(INT, NAT, num(n), num(n.abs()), 1, word(65));
            gives(INT, optionType(NAT), num(n), n.signum() < 0 ? NO_VALUE : some(num(n)), 1, word(66));
            int sign = n.signum();
            boolean[] tests = {sign == 0, sign != 0, sign < 0, sign > 0, sign <= 0, sign >= 0};
            for (int i = 0; i < tests.length; i++) {
                gives(INT, BOOL, num(n), tests[i] ? TRUE : FALSE, 1, word(69 + i));
            }
            if (sign >= 0) {
                gives(NAT, INT, num(n), num(n), 1, word(67));
                gives(NAT, INT, num(n), num(n.negate()), 1, word(64));
            }
        }
    }

    private static void sumsAtZeroAndTheGreatest() {
        gives(INT, INT, num(MOST), num(0), 2, push(INT, num(MOST.negate())), word(60));
        gives(INT, INT, num(MOST), num(0), 2, push(INT, num(MOST)), word(61));
        gives(INT, INT, num(0), num(0), 2, push(INT, num(MOST.negate())), word(62));
        gives(INT, INT, num(-1), num(MOST.negate()), 2, push(INT, num(MOST)), word(62));
        gives(INT, INT, num(-1), num(MOST), 2, push(INT, num(MOST.negate())), word(62));
        gives(NAT, INT, num(1), num(-1), 2, push(NAT, num(0)), word(61));
        gives(NAT, INT, num(1), num(0), 2, push(NAT, num(1)), word(61));
    }

    // "68 COMPARE x, y > -1, 0 or 1, an INT, by the order of two of one simple type"

    private static void compares(int[] type, int[] less, int[] more) {
        gives(type, INT, more, num(-1), 2, push(type, less), word(68));
        gives(type, INT, less, num(0), 2, push(type, less), word(68));
        gives(type, INT, less, num(1), 2, push(type, more), word(68));
    }

    private static void compareNeighbours() {
        compares(BOOL, FALSE, TRUE);
        compares(NAT, num(0), num(1));
        compares(INT, num(-1), num(0));
        compares(INT, num(-2), num(-1));
        compares(NAT, num(power(60).subtract(BigInteger.ONE)), num(power(60)));
        compares(INT, num(MOST.negate()), num(MOST.negate().add(BigInteger.ONE)));
        compares(NAT, num(MOST.subtract(BigInteger.ONE)), num(MOST));
        compares(TEXT, text(""), text(" "));
        compares(TEXT, text("abcdefg"), text("abcdefg "));
        compares(TEXT, text("abcdefgh"), text("abcdefgi"));
        compares(TEXT, text("Z~"), text("a"));
        int[] pairs = pairType(NAT, TEXT);
        compares(pairs, pair(num(1), text("b")), pair(num(2), text("a")));
        compares(pairs, pair(num(1), text("")), pair(num(1), text(" ")));
    }

    // "75 CONCAT x, y > the text of x and then y", "CONCAT a text of more than 8"

    private static void concatOfEachLength() {
        for (int x = 0; x <= 8; x++) {
            PactLedger ledger = deployed(pure(TEXT, TEXT, step(push(TEXT, text("12345678".substring(0, x)))), steps(75)));
            for (int y = 0; y <= 8; y++) {
                String what = "CONCAT of " + x + " and " + y;
                int[] parameter = text("abcdefgh".substring(0, y));
                due(what, call(ledger, 0, parameter, 1, 150), x + y > 8 ? ARITHMETIC : "6");
                due(what, output(ledger), x + y > 8 ? NOTHING
                    : text("12345678".substring(0, x) + "abcdefgh".substring(0, y)));
            }
        }
    }

    // "76 FAIL x >: the call fails with x, of a simple type or UNIT"

    private static void failOfEachType() {
        int[][] types = {UNIT, BOOL, INT, NAT, TEXT, pairType(INT, TEXT)};
        int[][] values = {THE_UNIT, FALSE, num(MOST.negate()), num(0), text(""), pair(num(-1), text("12345678"))};
        for (int i = 0; i < types.length; i++) {
            PactLedger ledger = deployed(script(types[i], NAT, NAT, row(CAR, FAIL), num(5)));
            due("FAIL", call(ledger, 0, values[i], 1, 150), UNSUPPORTED);
            due("output", output(ledger), values[i]);
            due("storage", storage(ledger, 0), num(5));
        }
    }

    // "No more than 12 are on the stack at a time"

    private static void twelveOnTheStack() {
        // Powers of 2 one on the other, so that their sum tells whether each of them was there.
        int[][] pushes = new int[12][];
        for (int i = 0; i < pushes.length; i++) {
            pushes[i] = push(NAT, num(1 << i));
        }
        int[][] eleven = java.util.Arrays.copyOf(pushes, 11);
        gives(NAT, NAT, num(0), num(4095), 1 + 12 + 11, then(then(new int[][] {DROP}, pushes), times(11, word(60))));
        gives(NAT, NAT, num(4096), num(4096 + 2047), 11 + 11, then(eleven, times(11, word(60))));
        // The last one comes below what DIP holds.
        int[][] dipped = then(then(times(1, DROP), eleven), dip(push(NAT, num(2048))));
        gives(NAT, NAT, num(0), num(4095), 1 + 11 + 2 + 11, then(dipped, times(11, word(60))));
    }
}
