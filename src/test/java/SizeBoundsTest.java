import java.math.BigInteger;

/** Terms, SIZE: numbers at 2^bits, and results and storages at 100 nodes and at a ROW of 40. */
public final class SizeBoundsTest extends Ledgers {
    private static final BigInteger ZERO = BigInteger.ZERO;
    private static final BigInteger UNITY = BigInteger.ONE;
    private static final BigInteger MOST = power(120).subtract(UNITY);
    private static final int[] UNITS = listType(UNIT);
    private static final int[] LISTS = listType(UNITS);
    // What the code of bigCode() costs.
    private static final int BIG_COST = 18;

    public static void main(String[] args) {
        sumsAtEachNumberOfBits();
        productsAtEachNumberOfBits();
        quotientsAtEachNumberOfBits();
        restsAtEachNumberOfBits();
        edivByZeroGivesNoNumber();
        onlyWhatIsGivenCounts();
        othersHaveNoBoundOfBits();
        resultOf100Nodes();
        resultOf100NodesByEachKind();
        storageOf100Nodes();
        resultAndStorageOf100Each();
        bigOf100Nodes();
        rowOf40InAResult();
        rowOf40InAStorage();
        rowOf40InABig();
        mapsOf33();
        whenAllIsDone();
        mapsWhenAllIsDone();
        bigsWhenAllIsDone();
        aFailHasNoSize();
        end();
    }

    /** A ledger whose contracts 0 to 3 are ADD, SUB, MUL and EDIV of a pair of two. */
    private static PactLedger arithmetic() {
        int[] pairs = pairType(INT, INT);
        int[][] apart = {DUP, CDR, SWAP, CAR};
        PactLedger ledger = new PactLedger();
        for (int code = 60; code <= 63; code++) {
            int[] result = code == 63 ? optionType(pairType(INT, NAT)) : INT;
            put(ledger, pure(pairs, result, apart, steps(code))).deploy();
        }
        return ledger;
    }

    /** That an instruction on x and y is right or has SIZE. */
    private static void sized(PactLedger ledger, int code, BigInteger x, BigInteger y, int bits, boolean right) {
        String what = "instruction " + code + " of " + x + " and " + y + " within " + bits + " bits";
        due(what, call(ledger, code - 60, pair(num(x), num(y)), bits, 150), right ? "9" : ARITHMETIC);
        due(what + ", output", ledger.count(2) == 0 ? 0 : 1, right ? 1 : 0);
        due(what + ", wrong()", ledger.wrong(), -1);
    }

    // "ADD, SUB, MUL or EDIV gives a number that without its sign is not below 2^bits"

    private static void sumsAtEachNumberOfBits() {
        for (int bits = 1; bits <= 120; bits++) {
            PactLedger ledger = arithmetic();
            BigInteger bound = power(bits);
            BigInteger below = bound.subtract(UNITY);
            sized(ledger, 60, below.subtract(UNITY), UNITY, bits, true);
            sized(ledger, 60, below, ZERO, bits, true);
            sized(ledger, 60, below, UNITY, bits, false);
            sized(ledger, 60, below, below, bits, false);
            sized(ledger, 60, below.negate(), ZERO, bits, true);
            sized(ledger, 60, below.negate(), UNITY.negate(), bits, false);
            sized(ledger, 61, below, ZERO, bits, true);
            sized(ledger, 61, below, UNITY.negate(), bits, false);
            sized(ledger, 61, ZERO, below, bits, true);
            sized(ledger, 61, UNITY.negate(), below, bits, false);
            sized(ledger, 61, below.negate(), below, bits, false);
        }
    }

    private static void productsAtEachNumberOfBits() {
        for (int bits = 1; bits <= 120; bits++) {
            PactLedger ledger = arithmetic();
            BigInteger below = power(bits).subtract(UNITY);
            sized(ledger, 62, below, UNITY, bits, true);
            sized(ledger, 62, below.negate(), UNITY, bits, true);
            sized(ledger, 62, power(bits - 1), BigInteger.TWO, bits, false);
            sized(ledger, 62, BigInteger.TWO, power(bits - 1).negate(), bits, false);
            int half = bits / 2;
            sized(ledger, 62, power(half), power(bits - half - 1), bits, true);
            sized(ledger, 62, power(half), power(bits - half), bits, false);
            sized(ledger, 62, power(bits - half), power(half).subtract(UNITY), bits, true);
            sized(ledger, 62, MOST, ZERO, bits, true);
            sized(ledger, 62, MOST, MOST, bits, false);
        }
    }

    private static void quotientsAtEachNumberOfBits() {
        for (int bits = 1; bits <= 120; bits++) {
            PactLedger ledger = arithmetic();
            BigInteger below = power(bits).subtract(UNITY);
            sized(ledger, 63, below, UNITY, bits, true);
            sized(ledger, 63, below, UNITY.negate(), bits, true);
            sized(ledger, 63, below.negate(), UNITY, bits, true);
            if (bits < 120) {
                sized(ledger, 63, power(bits), UNITY, bits, false);
                sized(ledger, 63, power(bits).negate(), UNITY, bits, false);
                sized(ledger, 63, power(bits).negate(), UNITY.negate(), bits, false);
                // The q of -(2n - 1) and 2 is -n, that of -(2n - 2) is -(n - 1), that of 2n - 1 is n - 1.
                sized(ledger, 63, power(bits + 1).subtract(UNITY).negate(), BigInteger.TWO, bits, false);
                sized(ledger, 63, power(bits + 1).subtract(BigInteger.TWO).negate(), BigInteger.TWO, bits, true);
                sized(ledger, 63, power(bits + 1).subtract(UNITY), BigInteger.TWO, bits, true);
            }
        }
    }

    private static void restsAtEachNumberOfBits() {
        for (int bits = 1; bits < 120; bits++) {
            PactLedger ledger = arithmetic();
            BigInteger bound = power(bits);
            sized(ledger, 63, bound.subtract(UNITY), bound, bits, true);
            sized(ledger, 63, bound.subtract(UNITY), bound.add(UNITY).negate(), bits, true);
            sized(ledger, 63, bound, bound.add(UNITY), bits, false);
            sized(ledger, 63, bound, bound.add(UNITY).negate(), bits, false);
            // The r of -1 is y without its sign less one.
            sized(ledger, 63, UNITY.negate(), bound, bits, true);
            sized(ledger, 63, UNITY.negate(), bound.add(UNITY), bits, false);
            sized(ledger, 63, UNITY.negate(), bound.add(UNITY).negate(), bits, false);
        }
    }

    private static void edivByZeroGivesNoNumber() {
        PactLedger ledger = arithmetic();
        sized(ledger, 63, MOST, ZERO, 1, true);
        due("output", output(ledger), NO_VALUE);
        sized(ledger, 63, MOST.negate(), ZERO, 1, true);
        sized(ledger, 63, ZERO, MOST, 1, true);
        due("output", output(ledger), some(pair(num(0), num(0))));
    }

    private static void onlyWhatIsGivenCounts() {
        PactLedger ledger = arithmetic();
        sized(ledger, 60, MOST, MOST.negate(), 1, true);
        sized(ledger, 60, MOST, MOST.negate().add(UNITY), 1, true);
        sized(ledger, 60, MOST, MOST.negate().add(BigInteger.TWO), 1, false);
        sized(ledger, 60, MOST, MOST.negate().add(BigInteger.TWO), 2, true);
        sized(ledger, 61, MOST, MOST, 1, true);
        sized(ledger, 62, MOST, ZERO, 1, true);
        sized(ledger, 63, MOST, MOST, 1, true);
        sized(ledger, 63, MOST, MOST.subtract(UNITY), 1, true);
        sized(ledger, 63, MOST, MOST.subtract(BigInteger.TWO), 1, false);
    }

    /** That code is done on the greatest number, without its sign, within one bit. */
    private static void unbounded(int[] result, int[]... code) {
        int[][] numbers = {num(MOST), num(MOST.negate())};
        for (int[] number : numbers) {
            PactLedger ledger = deployed(pure(INT, result, code));
            String answer = call(ledger, 0, number, 1, 150);
            due(told(row(code)) + " within one bit", answer.startsWith("throws") ? answer : "right", "right");
        }
    }

    private static void othersHaveNoBoundOfBits() {
        unbounded(INT);
        unbounded(INT, word(64));
        unbounded(NAT, word(65));
        unbounded(optionType(NAT), word(66));
        unbounded(INT, word(65), word(67));
        unbounded(INT, DROP, push(INT, num(MOST)));
        unbounded(INT, push(INT, num(MOST)), word(68));
        unbounded(BOOL, word(74));
        // How many there are is not bounded by bits either.
        PactLedger ledger = deployed(pure(UNITS, NAT, steps(48)));
        due("SIZE of 40 within one bit", call(ledger, 0, many(40, THE_UNIT), 1, 150), "5");
        due("output", output(ledger), num(40));
    }

    /** A list of lists with this many nodes, from 85 to 100. */
    private static int[] nodes(int n) {
        return row(many(40, THE_UNIT), many(40, THE_UNIT), many(n - 84, THE_UNIT));
    }

    private static void answers(String what, PactLedger ledger, int[] parameter, boolean right) {
        int calls = ledger.about(0, 2);
        String answer = call(ledger, 0, parameter, 1, 150);
        due(what, answer.startsWith("throws") ? answer : "right", right ? "right" : ARITHMETIC);
        due(what + ", output", ledger.count(2) == 0 ? 0 : 1, right ? 1 : 0);
        due(what + ", calls", ledger.about(0, 2), right ? calls + 1 : calls);
        due(what + ", wrong()", ledger.wrong(), -1);
    }

    // "or when all is done the result, or the storage (with the ROW of BIG) has more than 100 nodes"

    private static void resultOf100Nodes() {
        PactLedger same = deployed(pure(LISTS, LISTS));
        answers("99 nodes", same, nodes(99), true);
        answers("100 nodes", same, nodes(100), true);
        PactLedger oneMore = deployed(pure(LISTS, optionType(LISTS), steps(39)));
        answers("98 nodes and one", oneMore, nodes(98), true);
        answers("99 nodes and one", oneMore, nodes(99), true);
        due("bytes", oneMore.count(2), 200);
        answers("100 nodes and one", oneMore, nodes(100), false);
        PactLedger inFront = deployed(pure(LISTS, LISTS, step(nil(UNIT)), steps(46)));
        answers("99 nodes and an empty list in front", inFront, nodes(99), true);
        answers("100 nodes and an empty list in front", inFront, nodes(100), false);
    }

    /** What is behind the list of lists is the last one counted: it brings the 100th or the 101st. */
    private static void resultOf100NodesByEachKind() {
        int[][] types = {NAT, TEXT, optionType(NAT), optionType(NAT), orType(NAT, NAT), pairType(NAT, NAT), UNITS, UNITS};
        int[][] values = {ONE, text("a"), NO_VALUE, some(ONE), right(ONE), pair(ONE, ONE), row(), row(THE_UNIT)};
        int[] counts = {1, 1, 1, 2, 2, 3, 1, 2};
        for (int i = 0; i < types.length; i++) {
            // PAIR has the list on top as its first part.
            PactLedger ledger = deployed(pure(LISTS, pairType(LISTS, types[i]), step(push(types[i], values[i])),
                steps(32, 36)));
            int most = 100 - 1 - counts[i];
            String what = told(values[i]) + " behind a list";
            answers(what + ", 99 nodes", ledger, nodes(most - 1), true);
            answers(what + ", 100 nodes", ledger, nodes(most), true);
            answers(what + ", 101 nodes", ledger, nodes(most + 1), false);
            // And as the first part, with the list behind it.
            PactLedger turned = deployed(pure(LISTS, pairType(types[i], LISTS), step(push(types[i], values[i])),
                steps(36)));
            answers(what + " in front, 100 nodes", turned, nodes(most), true);
            answers(what + " in front, 101 nodes", turned, nodes(most + 1), false);
        }
    }

    /** A script whose parameter becomes the storage, with this code between. */
    private static int[] storing(int[] parameter, int[] storage, int[] value, int[]... code) {
        return script(parameter, UNIT, storage, code(steps(37), code, steps(35, 36)), value);
    }

    private static void storageOf100Nodes() {
        PactLedger ledger = deployed(storing(LISTS, optionType(LISTS), NO_VALUE, SOME));
        answers("a storage of 99 nodes", ledger, nodes(98), true);
        due("nodes", ledger.about(0, 5), 99);
        answers("a storage of 100 nodes", ledger, nodes(99), true);
        due("nodes", ledger.about(0, 5), 100);
        due("storage(0)", ledger.storage(0), 200);
        answers("a storage of 101 nodes", ledger, nodes(100), false);
        due("nodes", ledger.about(0, 5), 100);
        due("storage(0)", ledger.storage(0), 200);
    }

    private static void resultAndStorageOf100Each() {
        // The parameter becomes both.
        int[] options = optionType(LISTS);
        PactLedger ledger = deployed(script(LISTS, options, options, row(CAR, SOME, DUP, PAIR), NO_VALUE));
        answers("both of 100 nodes", ledger, nodes(99), true);
        due("nodes", ledger.about(0, 5), 100);
        due("bytes of the result", ledger.count(2), 200);
        answers("both of 101 nodes", ledger, nodes(100), false);
        PactLedger stored = deployed(script(LISTS, LISTS, options, row(CAR, DUP, SOME, SWAP, PAIR), NO_VALUE));
        answers("a result of 100 and a storage of 101 nodes", stored, nodes(100), false);
        answers("a result of 99 and a storage of 100 nodes", stored, nodes(99), true);
        PactLedger shown = deployed(script(LISTS, options, LISTS, row(CAR, DUP, SOME, PAIR), row()));
        answers("a result of 101 and a storage of 100 nodes", shown, nodes(100), false);
        answers("a result of 100 and a storage of 99 nodes", shown, nodes(99), true);
    }

    /** A contract whose BIG has 31 keys with empty lists: with the pair and a number these are 96 nodes. */
    private static PactLedger with31Keys() {
        int[] type = pairType(bigType(NAT, UNITS), NAT);
        PactLedger ledger = deployed(script(pairType(NAT, UNITS), UNIT, type, bigCode(), pair(row(), ONE)));
        for (int key = 1; key <= 31; key++) {
            due("key " + key, call(ledger, 0, pair(num(key), row()), 1, 150), Integer.toString(BIG_COST));
        }
        due("nodes", ledger.about(0, 5), 96);
        return ledger;
    }

    /** Code for a parameter that is a pair of key and value: the BIG has this value for the key then. */
    private static int[] bigCode() {
        // The parameter on top of the storage.
        int[][] open = {DUP, CDR, SWAP, CAR};
        // The BIG and what is behind it come below the parameter.
        int[] split = dip(DUP, CDR, SWAP, CAR);
        // The value as an option, then the key on top.
        int[][] keyOnTop = {DUP, CDR, SOME, SWAP, CAR};
        return code(open, step(split), keyOnTop, steps(53, 36, 35, 36));
    }

    private static void bigOf100Nodes() {
        PactLedger ledger = with31Keys();
        answers("a BIG that makes it 101", ledger, pair(num(32), many(2, THE_UNIT)), false);
        due("nodes", ledger.about(0, 5), 96);
        due("keys", ledger.about(0, 4), 31);
        answers("a BIG that makes it 99", ledger, pair(num(32), many(0, THE_UNIT)), true);
        due("nodes", ledger.about(0, 5), 99);
        answers("a BIG that makes it 100", ledger, pair(num(32), many(1, THE_UNIT)), true);
        due("nodes", ledger.about(0, 5), 100);
        due("keys", ledger.about(0, 4), 32);
        answers("one more in a list", ledger, pair(num(31), many(1, THE_UNIT)), false);
        answers("one more key", ledger, pair(num(33), row()), false);
        answers("a key as it was", ledger, pair(num(31), row()), true);
        due("nodes", ledger.about(0, 5), 100);
        due("storage(0)", storage(ledger, 0), pair(num(32), ONE));
    }

    // "or a ROW of more than 40"

    private static void rowOf40InAResult() {
        int[][] oneMore = steps(35, 46);
        PactLedger ledger = deployed(pure(UNITS, UNITS, oneMore));
        answers("a row of 39", ledger, many(38, THE_UNIT), true);
        answers("a row of 40", ledger, many(39, THE_UNIT), true);
        answers("a row of 41", ledger, many(40, THE_UNIT), false);
        int[][] wrapped = {optionType(UNITS), listType(UNITS), orType(NAT, UNITS), pairType(UNITS, NAT)};
        int[][][] wrapping = {
            {SOME}, {nil(UNITS), SWAP, CONS}, {word(43, NAT)}, {push(NAT, ONE), SWAP, PAIR}
        };
        for (int i = 0; i < wrapped.length; i++) {
            PactLedger inside = deployed(pure(UNITS, wrapped[i], oneMore, wrapping[i]));
            answers("a row of 40 in " + told(wrapped[i]), inside, many(39, THE_UNIT), true);
            answers("a row of 41 in " + told(wrapped[i]), inside, many(40, THE_UNIT), false);
        }
    }

    private static void rowOf40InAStorage() {
        PactLedger ledger = deployed(storing(UNITS, UNITS, row(), PUSH_UNIT, CONS));
        answers("a row of 40", ledger, many(39, THE_UNIT), true);
        due("nodes", ledger.about(0, 5), 41);
        answers("a row of 41", ledger, many(40, THE_UNIT), false);
        due("nodes", ledger.about(0, 5), 41);
        PactLedger inside = deployed(storing(UNITS, optionType(UNITS), NO_VALUE, PUSH_UNIT, CONS, SOME));
        answers("a row of 40 inside", inside, many(39, THE_UNIT), true);
        answers("a row of 41 inside", inside, many(40, THE_UNIT), false);
        due("nodes", inside.about(0, 5), 42);
    }

    private static void rowOf40InABig() {
        // The list for key 1 has one more each time.
        int[] type = pairType(bigType(NAT, UNITS), NAT);
        int[] code = code(steps(38, 31, 38, 32, 37), step(DUP), step(push(NAT, ONE)), steps(52),
            step(word(41, row(nil(UNIT)), row())), steps(35, 46, 39), step(push(NAT, ONE)), steps(53, 36, 35, 36));
        PactLedger ledger = deployed(script(UNIT, UNIT, type, code,
            pair(row(entry(ONE, many(38, THE_UNIT))), ONE)));
        answers("39", ledger, THE_UNIT, true);
        answers("40", ledger, THE_UNIT, true);
        due("nodes", ledger.about(0, 5), 3 + 2 + 41);
        answers("41", ledger, THE_UNIT, false);
        due("nodes", ledger.about(0, 5), 3 + 2 + 41);
    }

    /** A map of 33 has 100 nodes, so that no map comes to a row of 40. */
    private static void mapsOf33() {
        int[] maps = mapType(NAT, UNIT);
        int[][] entries = new int[32][];
        for (int i = 0; i < entries.length; i++) {
            entries[i] = entry(num(i), THE_UNIT);
        }
        int[] put = push(optionType(UNIT), some(THE_UNIT));
        PactLedger one = deployed(pure(maps, maps, step(put), step(push(NAT, num(40))), steps(53)));
        answers("a map of 33", one, row(entries), true);
        due("bytes", one.count(2), 2 + 33 * 6);
        PactLedger two = deployed(pure(maps, maps, step(put), step(push(NAT, num(40))), steps(53), step(put),
            step(push(NAT, num(41))), steps(53)));
        answers("a map of 34", two, row(entries), false);
    }

    // "when all is done"

    private static void whenAllIsDone() {
        int[][] oneMore = steps(35, 46);
        int[] rest = word(47, row(DROP), row(nil(UNIT)));
        PactLedger ledger = deployed(pure(UNITS, UNITS, oneMore, oneMore, step(rest), step(rest)));
        answers("a row of 42 that has 40 at the end", ledger, many(40, THE_UNIT), true);
        due("bytes", ledger.count(2), 82);
        PactLedger count = deployed(pure(UNITS, NAT, oneMore, steps(48)));
        answers("a row of 41 that goes", count, many(40, THE_UNIT), true);
        due("output", output(count), num(41));
        PactLedger two = deployed(pure(LISTS, LISTS, steps(31, 36, 31, 36, 37, 37)));
        answers("403 nodes that go", two, nodes(100), true);
    }

    private static void mapsWhenAllIsDone() {
        int[] maps = mapType(NAT, UNIT);
        int[][] entries = new int[33][];
        for (int i = 0; i < entries.length; i++) {
            entries[i] = entry(num(i), THE_UNIT);
        }
        int[][] put = {push(optionType(UNIT), some(THE_UNIT)), push(NAT, num(40)), word(53)};
        int[][] take = {none(UNIT), push(NAT, num(7)), word(53)};
        PactLedger less = deployed(pure(maps, maps, put, take));
        answers("a map of 34 that has 33 at the end", less, row(entries), true);
        due("bytes", less.count(2), 2 + 33 * 6);
        PactLedger count = deployed(pure(maps, NAT, put, steps(48)));
        answers("a map of 34 that goes", count, row(entries), true);
        due("output", output(count), num(34));
    }

    /** Each call puts one key into the BIG and takes another one from it; with 32 it has 99 nodes. */
    private static void bigsWhenAllIsDone() {
        int[] type = pairType(bigType(NAT, UNIT), NAT);
        int[][] apart = {DUP, CDR, SWAP, CAR};
        int[] code = code(apart, step(word(33, row(apart))), apart, step(dip(SWAP)),
            step(dip(push(optionType(UNIT), some(THE_UNIT)))), steps(53, 32), step(dip(none(UNIT))), steps(53, 36, 35, 36));
        PactLedger ledger = deployed(script(pairType(NAT, NAT), UNIT, type, code, pair(row(), ONE)));
        for (int key = 1; key <= 32; key++) {
            answers("key " + key, ledger, pair(num(key), num(0)), true);
        }
        due("nodes", ledger.about(0, 5), 99);
        answers("one more key", ledger, pair(num(33), num(0)), false);
        answers("one more key that goes again", ledger, pair(num(33), num(33)), true);
        answers("one more key and one less", ledger, pair(num(33), num(5)), true);
        due("keys", ledger.about(0, 4), 32);
    }

    /** The bound of nodes is for the result and the storage; a FAIL has neither. */
    private static void aFailHasNoSize() {
        int[][] doubled = steps(37, 31, 36, 31, 36, 31, 36, 31, 36, 31, 36, 31, 36, 76);
        PactLedger ledger = deployed(script(NAT, NAT, NAT, code(doubled), ONE));
        due("a FAIL of 127 nodes", call(ledger, 0, num(5), 1, 150), UNSUPPORTED);
        due("bytes", ledger.count(2), 254);
    }
}
