import java.math.BigInteger;

/** Terms, the bounds of VALUES: their words and parts, NAT at 0, keys that ascend, and the ORDER of simple values. */
public final class ValueBoundsTest extends Ledgers {
    private static final int[] TWO = num(2);

    public static void main(String[] args) {
        wordsAndPartsOfEach();
        entriesOfMaps();
        kindsOfNodes();
        natIsNotBelow0();
        partsInTheirOrder();
        listsFromEmptyTo40();
        mapsFromEmptyOn();
        keysAscend();
        keyAheadOfItsValue();
        falseThenTrue();
        numbersAsUsual();
        textsByTheFirstThatDiffers();
        pairsByTheirFirstsThenTheirSeconds();
        valuesOfBig();
        end();
    }

    /** Whether a word with this code and so many numbers as parts is a value of a type over NATs. */
    private static boolean suits(int[] type, int code, int n) {
        switch (type[1]) {
            case 0:
                return code == 20 && n == 0;
            case 1:
                return (code == 21 || code == 22) && n == 0;
            case 5:
                return code == 23 && n == 2;
            case 6:
                return code == 24 && n == 0 || code == 25 && n == 1;
            case 7:
                return (code == 26 || code == 27) && n == 1;
            default:
                return false;
        }
    }

    // "UNIT: word 20. BOOL: word 21 (false), 22 (true). .. PAIR: word 23 .. OPTION: word 24 (none), 25 with a value.
    // OR: word 26 (the left one) or 27 (the right one) with a value."

    private static void wordsAndPartsOfEach() {
        int[][] types = {
            UNIT, BOOL, INT, NAT, TEXT, pairType(NAT, NAT), optionType(NAT), orType(NAT, NAT), listType(NAT),
            mapType(NAT, NAT)
        };
        int[] codes = {0, 1, 2, 3, 19, 20, 21, 22, 23, 24, 25, 26, 27, 28, 29, 30, 255};
        for (int[] type : types) {
            for (int code : codes) {
                for (int n = 0; n <= 3; n++) {
                    int[] value = word(code, times(n, ONE));
                    if (suits(type, code, n)) {
                        rightValue(type, value);
                    } else {
                        illValue("word " + code + " with " + n + " for type " + type[1], type, value, 0);
                    }
                }
            }
        }
    }

    // "MAP, BIG: a ROW of words 28 with a key and a value"

    private static void entriesOfMaps() {
        int[] type = mapType(NAT, NAT);
        int[] before = entry(num(0), ONE);
        int[] codes = {0, 20, 23, 25, 27, 28, 29, 30, 255};
        for (int code : codes) {
            for (int n = 0; n <= 3; n++) {
                int[] node = word(code, times(n, ONE));
                if (code == 28 && n == 2) {
                    rightValue(type, row(before, node));
                } else {
                    illValue("entry " + code + " with " + n, type, row(before, node), 2 + before.length);
                }
            }
        }
        illValue("a number as an entry", type, row(ONE), 2);
        illValue("a row as an entry", type, row(row(ONE, ONE)), 2);
    }

    private static void kindsOfNodes() {
        int[][] types = {
            UNIT, BOOL, INT, NAT, TEXT, pairType(NAT, NAT), optionType(NAT), orType(NAT, NAT), listType(NAT),
            mapType(NAT, NAT)
        };
        for (int[] type : types) {
            int code = type[1];
            int[][] nodes = {ONE, text("a"), row()};
            boolean[] right = {code == 2 || code == 3, code == 4, code == 8 || code == 9};
            for (int i = 0; i < nodes.length; i++) {
                if (right[i]) {
                    rightValue(type, nodes[i]);
                } else {
                    illValue("a node of kind " + i + " for type " + code, type, nodes[i], 0);
                }
            }
        }
    }

    // "INT, NAT: a NUMBER (of NAT not below 0)"

    private static void natIsNotBelow0() {
        BigInteger most = power(120).subtract(BigInteger.ONE);
        BigInteger[] numbers = {
            BigInteger.ZERO, BigInteger.ONE, BigInteger.TWO, BigInteger.valueOf(63), BigInteger.valueOf(64),
            power(60).subtract(BigInteger.ONE), power(60), most
        };
        for (BigInteger number : numbers) {
            rightValue(NAT, num(number));
            rightValue(INT, num(number));
            rightValue(INT, num(number.negate()));
            if (number.signum() != 0) {
                illValue("-" + number + " for a NAT", NAT, num(number.negate()), 0);
            }
        }
    }

    // "at a node that is none of its type ..; its parts in order"

    private static void partsInTheirOrder() {
        int[] minus = num(-1);
        int[] pairs = pairType(NAT, NAT);
        illValue("both parts of a pair", pairs, pair(minus, minus), 2);
        illValue("the second of a pair", pairs, pair(ONE, minus), 4);
        illValue("a pair of three with wrong parts", pairs, word(23, minus, minus, minus), 0);
        illValue("an option's", optionType(NAT), some(minus), 2);
        int[] ors = orType(NAT, TEXT);
        illValue("the left one's", ors, left(text("")), 2);
        illValue("the right one's", ors, right(ONE), 2);
        rightValue(ors, left(ONE));
        rightValue(ors, right(text("")));
        illValue("in a pair in a pair", pairType(pairs, pairs), pair(pair(ONE, ONE), pair(ONE, minus)), 2 + 6 + 4);
        illValue("a first one wrong inside ahead of a second one", pairType(pairs, NAT), pair(pair(ONE, minus), minus),
            2 + 4);
    }

    // "LIST: a ROW of values"

    private static void listsFromEmptyTo40() {
        int[] lists = listType(NAT);
        int[] counts = {0, 1, 2, 39, 40};
        for (int n : counts) {
            rightValue(lists, many(n, ONE));
            for (int bad = 0; bad < n; bad += Math.max(1, n - 1)) {
                int[][] all = times(n, ONE);
                all[bad] = num(-1);
                illValue("one wrong at " + bad + " of " + n, lists, row(all), 2 + 2 * bad);
            }
        }
        illValue("two wrong", lists, row(ONE, num(-1), text("")), 4);
    }

    private static void mapsFromEmptyOn() {
        int[] maps = mapType(NAT, NAT);
        int[] counts = {0, 1, 2, 29};
        for (int n : counts) {
            int[][] all = new int[n][];
            for (int i = 0; i < n; i++) {
                all[i] = entry(num(i), ONE);
            }
            rightValue(maps, row(all));
            for (int bad = 0; bad < n; bad += Math.max(1, n - 1)) {
                int[][] wrong = all.clone();
                wrong[bad] = entry(num(bad), num(-1));
                illValue("a value wrong at " + bad, maps, row(wrong), 2 + 6 * bad + 4);
                wrong[bad] = entry(num(-1), ONE);
                illValue("a key wrong at " + bad, maps, row(wrong), 2 + 6 * bad + 2);
            }
        }
    }

    /** That these ascend as keys, and that neither one twice nor one behind a greater one does. */
    private static void ascend(int[] type, int[]... keys) {
        int[] maps = mapType(type, UNIT);
        int[][] entries = new int[keys.length][];
        for (int i = 0; i < keys.length; i++) {
            entries[i] = entry(keys[i], THE_UNIT);
        }
        rightValue(maps, row(entries));
        for (int i = 0; i < keys.length; i++) {
            illValue("key " + i + " twice", maps, row(entries[i], entries[i]), 2 + entries[i].length + 2);
            for (int j = 0; j < i; j++) {
                rightValue(maps, row(entries[j], entries[i]));
                illValue("key " + j + " behind key " + i, maps, row(entries[i], entries[j]), 2 + entries[i].length + 2);
            }
        }
    }

    // "the keys ascending", "a key that is not above the one before it at the key"

    private static void keysAscend() {
        int[] maps = mapType(NAT, NAT);
        int[] zero = entry(num(0), ONE);
        int[] one = entry(ONE, ONE);
        int[] two = entry(TWO, ONE);
        rightValue(maps, row(zero, one, two));
        illValue("the last key as the one before it", maps, row(zero, one, one), 2 + 6 + 6 + 2);
        illValue("the last key below the one before it", maps, row(zero, two, one), 2 + 6 + 6 + 2);
        illValue("the last key above the first one alone", maps, row(one, two, one), 2 + 6 + 6 + 2);
        illValue("two keys that are not above", maps, row(two, one, zero), 2 + 6 + 2);
    }

    private static void keyAheadOfItsValue() {
        int[] maps = mapType(NAT, NAT);
        int[] minus = num(-1);
        illValue("the same key and a wrong value", maps, row(entry(ONE, ONE), entry(ONE, minus)), 2 + 6 + 2);
        illValue("a wrong value ahead of the next key", maps, row(entry(ONE, minus), entry(ONE, ONE)), 2 + 4);
        illValue("a wrong key and a wrong value", maps, row(entry(minus, minus)), 2 + 2);
        int[] twos = mapType(pairType(NAT, NAT), NAT);
        illValue("a wrong part of a key", twos, row(entry(pair(ONE, minus), ONE)), 2 + 2 + 4);
        int[] same = entry(pair(ONE, ONE), ONE);
        illValue("the same pair at its word", twos, row(same, same), 2 + same.length + 2);
    }

    // "Simple values have an ORDER: false, true; numbers as usual"

    private static void falseThenTrue() {
        ascend(BOOL, FALSE, TRUE);
    }

    private static void numbersAsUsual() {
        BigInteger sixty = power(60);
        ascend(INT, num(sixty.add(BigInteger.ONE).negate()), num(sixty.negate()),
            num(sixty.subtract(BigInteger.ONE).negate()), num(-64), num(-63), num(-1), num(0), num(1));
        ascend(NAT, num(0), num(1), num(63), num(64), num(sixty.subtract(BigInteger.ONE)), num(sixty),
            num(sixty.add(BigInteger.ONE)));
        BigInteger most = power(120).subtract(BigInteger.ONE);
        ascend(INT, num(most.negate()), num(most.negate().add(BigInteger.ONE)), num(power(119)),
            num(most.subtract(BigInteger.ONE)), num(most));
        // The low half falls where the high one rises.
        ascend(NAT, num(sixty.add(BigInteger.valueOf(5))), num(sixty.shiftLeft(1).add(BigInteger.ONE)));
        ascend(INT, num(sixty.shiftLeft(1).add(BigInteger.ONE).negate()), num(sixty.add(BigInteger.valueOf(5)).negate()));
    }

    // "texts by their first characters that differ, the one that ends first being less"

    private static void textsByTheFirstThatDiffers() {
        ascend(TEXT, text(""), text(" "), text("  "), text("A"), text("AA"), text("AB"), text("B"), text("B~"));
        ascend(TEXT, text("BAAAAAAA"), text("BAAAAAAB"), text("BAAAAAB"), text("BB"), text("Z"), text("a"), text("~"));
        ascend(TEXT, text("~~~~~~~"), text("~~~~~~~ "), text("~~~~~~~~"));
    }

    // "pairs by their first parts, then by their second ones"

    private static void pairsByTheirFirstsThenTheirSeconds() {
        ascend(pairType(INT, TEXT), pair(num(-1), text("z")), pair(num(0), text("")), pair(num(0), text("a")),
            pair(num(1), text("")));
        ascend(pairType(pairType(BOOL, NAT), BOOL), pair(pair(FALSE, ONE), TRUE), pair(pair(FALSE, TWO), FALSE),
            pair(pair(FALSE, TWO), TRUE), pair(pair(TRUE, num(0)), FALSE));
    }

    private static void valuesOfBig() {
        int[] type = pairType(bigType(NAT, TEXT), NAT);
        int before = 4 + type.length + 2;
        int[] one = entry(ONE, text("a"));
        int[] two = entry(TWO, text("b"));
        kept("an empty BIG", echo(NAT, type, pair(row(), ONE)));
        kept("a BIG of one", echo(NAT, type, pair(row(one), ONE)));
        kept("a BIG of two", echo(NAT, type, pair(row(one, two), ONE)));
        ill("a number for a BIG", echo(NAT, type, pair(ONE, ONE)), before + 2);
        ill("a BIG with a key twice", echo(NAT, type, pair(row(two, two), ONE)), before + 4 + two.length + 2);
        ill("a BIG with keys that fall", echo(NAT, type, pair(row(two, one), ONE)), before + 4 + two.length + 2);
        ill("a BIG with a wrong entry", echo(NAT, type, pair(row(one, pair(TWO, text("b"))), ONE)),
            before + 4 + one.length);
        ill("a BIG with a wrong key", echo(NAT, type, pair(row(entry(num(-1), text("a"))), ONE)), before + 6);
        ill("a BIG with a wrong value", echo(NAT, type, pair(row(entry(ONE, ONE)), ONE)), before + 8);
        ill("what is behind a BIG", echo(NAT, type, pair(row(one), num(-1))), before + 4 + one.length);
    }
}
