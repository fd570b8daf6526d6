import java.util.Arrays;

/** Terms, the bounds of NODES: first bytes, NUMBER, TEXT, ROW, WORD, how deep they lie and how many they are. */
public final class NodeBoundsTest extends Ledgers {
    public static void main(String[] args) {
        firstByteOfANode();
        anotherByteOfANumberFollows();
        sixBitsThenSeven();
        lastByteOfANumberIsNotZero();
        zeroHasNoSign();
        numberIsBelowTwoToThe120();
        tooLargeByTheByteThatMakesItSo();
        textHasUpTo8();
        charactersAre32To126();
        rowHasUpTo40();
        wordHasUpTo3Parts();
        wordHasAnyCode();
        nineDeep();
        nineDeepInEachNodeOfAScript();
        nineDeepInAParameterAndAKey();
        hundredNodes();
        hundredNodesOfAParameterAndAKey();
        nodesAreCountedAnewEachTime();
        end();
    }

    // "A node begins with a byte: 0 NUMBER .. 1 TEXT .. 2 ROW .. 4 + n, n 0 .. 3: a WORD"

    private static void firstByteOfANode() {
        for (int octet = 0; octet < 256; octet++) {
            // What follows suits each kind: a number 1, a text of one, a row of one, a word with up to three parts.
            int[] node = bytes(octet, 1);
            if (octet == 1) {
                node = bytes(1, 1, 65);
            } else if (octet == 2 || octet == 5) {
                node = bytes(octet, 1, 0, 1);
            } else if (octet == 6) {
                node = bytes(6, 1, 0, 1, 0, 1);
            } else if (octet == 7) {
                node = bytes(7, 1, 0, 1, 0, 1, 0, 1);
            }
            if (octet < 8 && octet != 3) {
                readable("first byte " + octet, node);
            } else {
                unreadable("first byte " + octet, node, 0);
                unreadable("first byte " + octet + " with nothing behind it", bytes(octet), 0);
            }
        }
    }

    // "NUMBER: one byte or more, each with 128 if another one follows"

    private static void anotherByteOfANumberFollows() {
        unreadable("no byte", bytes(0), 1);
        readable("127 is the last one", bytes(0, 127));
        unreadable("127 and one more", bytes(0, 127, 1), 2);
        unreadable("128 and no more", bytes(0, 128), 2);
        readable("128 and the last one", bytes(0, 128, 127));
        unreadable("128, the last one and one more", bytes(0, 128, 127, 1), 3);
        unreadable("128 twice and no more", bytes(0, 128, 128), 3);
        readable("128 twice and the last one", bytes(0, 128, 128, 1));
        int[] open = new int[232];
        Arrays.fill(open, 128);
        open[0] = 0;
        unreadable("a number that fills the buffer and has no end", open, 232);
    }

    // "of the first one 64 is the sign .., its lowest six bits are the lowest of the number, seven higher ones come
    // with each other byte"

    private static void sixBitsThenSeven() {
        int[][] numbers = {
            {0, 0}, {0, 1}, {0, 62}, {0, 63}, {0, 191, 1}, {0, 191, 63}, {0, 191, 127}, {0, 191, 255, 127},
            {0, 65}, {0, 66}, {0, 192, 1}, {0, 193, 1}, {0, 192, 128, 1}
        };
        int[][] oneMore = {
            {0, 1}, {0, 2}, {0, 63}, {0, 128, 1}, {0, 128, 2}, {0, 128, 64}, {0, 128, 128, 1}, {0, 128, 128, 128, 1},
            {0, 0}, {0, 65}, {0, 127}, {0, 192, 1}, {0, 255, 127}
        };
        PactLedger ledger = deployed(pure(INT, INT, step(push(INT, ONE)), steps(60)));
        for (int i = 0; i < numbers.length; i++) {
            due("call with " + told(numbers[i]), call(ledger, 0, numbers[i], 120, 150), "6");
            due("one more than " + told(numbers[i]), output(ledger), oneMore[i]);
        }
    }

    // "the last one of two or more isn't 0", "of a number the last byte of it if that is 0"

    private static void lastByteOfANumberIsNotZero() {
        readable("0 alone", bytes(0, 0));
        unreadable("0 behind one", bytes(0, 128, 0), 2);
        readable("1 behind one", bytes(0, 128, 1));
        unreadable("0 behind one that is not 0", bytes(0, 129, 0), 2);
        unreadable("0 behind two", bytes(0, 129, 129, 0), 3);
        readable("1 behind two, the second 0", bytes(0, 129, 128, 1));
        unreadable("0 behind 17", join(bytes(0), fill(17, 129), bytes(0)), 18);
        readable("1 behind 17", join(bytes(0), fill(17, 129), bytes(1)));
        unreadable("0 behind 18", join(bytes(0), fill(18, 129), bytes(0)), 19);
    }

    // "0 has no sign", "a first byte that is a 0 with a sign"

    private static void zeroHasNoSign() {
        rightValue(INT, bytes(0, 0));
        rightValue(INT, bytes(0, 65));
        unreadable("0 with a sign", bytes(0, 64), 1);
        unreadable("0 with a sign, and more", bytes(0, 64, 0, 1), 1);
        unreadable("0 with a sign in two bytes is wrong at its last one", bytes(0, 192, 0), 2);
        unreadable("0 with a sign in three bytes", bytes(0, 192, 128, 0), 3);
        rightValue(INT, bytes(0, 192, 1));
    }

    /** So many equal bytes. */
    private static int[] fill(int n, int octet) {
        int[] all = new int[n];
        Arrays.fill(all, octet);
        return all;
    }

    // "without its sign a number is below 2^120"

    private static void numberIsBelowTwoToThe120() {
        // Six bits, sixteen times seven, and two in the last byte: 120.
        rightValue(INT, join(bytes(0, 191), fill(16, 255), bytes(3)));
        rightValue(INT, join(bytes(0, 255), fill(16, 255), bytes(3)));
        rightValue(INT, join(bytes(0, 190), fill(16, 255), bytes(3)));
        unreadable("2^120", join(bytes(0, 128), fill(16, 128), bytes(4)), 18);
        unreadable("-2^120", join(bytes(0, 192), fill(16, 128), bytes(4)), 18);
        unreadable("2^120 + 1", join(bytes(0, 129), fill(16, 128), bytes(4)), 18);
        unreadable("2^121 - 1", join(bytes(0, 191), fill(16, 255), bytes(7)), 18);
        rightValue(INT, join(bytes(0, 128), fill(16, 128), bytes(1)));
        rightValue(INT, join(bytes(0, 128), fill(15, 128), bytes(127)));
    }

    // "or by which, as far as it is read, it is too large"

    private static void tooLargeByTheByteThatMakesItSo() {
        int[] begin = join(bytes(0, 128), fill(16, 128));
        for (int last = 1; last < 128; last++) {
            if (last < 4) {
                readable("last byte " + last, join(begin, bytes(last)));
            } else {
                unreadable("last byte " + last, join(begin, bytes(last)), 18);
                unreadable("byte " + last + " and one more", join(begin, bytes(last + 128, 1)), 18);
                unreadable("byte " + last + " and no more", join(begin, bytes(last + 128)), 18);
            }
        }
        unreadable("3 and no more", join(begin, bytes(131)), 19);
        unreadable("3 and one more", join(begin, bytes(131, 1)), 19);
        unreadable("3 and 127 more", join(begin, bytes(131, 127)), 19);
        unreadable("3 and a last 0", join(begin, bytes(131, 0)), 19);
        unreadable("2^120 ahead of a first byte that is none", join(begin, bytes(4, 255)), 18);
    }

    // "TEXT: a byte n, 0 .. 8"

    private static void textHasUpTo8() {
        for (int n = 0; n <= 8; n++) {
            rightValue(TEXT, join(bytes(1, n), fill(n, 65)));
            unreadable("a text of " + n + " and one more", join(bytes(1, n), fill(n + 1, 65)), 2 + n);
            if (n > 0) {
                unreadable("a text of " + n + " and one less", join(bytes(1, n), fill(n - 1, 65)), 1 + n);
            }
        }
        for (int n = 9; n < 256; n++) {
            unreadable("a text of " + n, join(bytes(1, n), fill(9, 65)), 1);
        }
        unreadable("a text of 9 with nothing behind it", bytes(1, 9), 1);
        unreadable("a text without its n", bytes(1), 1);
    }

    // "and n characters, 32 .. 126"

    private static void charactersAre32To126() {
        for (int c = 0; c < 256; c++) {
            if (c >= 32 && c <= 126) {
                readable("character " + c, bytes(1, 1, c));
                readable("character " + c + " as the last of 8", bytes(1, 8, 65, 65, 65, 65, 65, 65, 65, c));
            } else {
                unreadable("character " + c, bytes(1, 1, c), 2);
                unreadable("character " + c + " as the second", bytes(1, 3, 65, c, 65), 3);
                unreadable("character " + c + " as the last of 8", bytes(1, 8, 65, 65, 65, 65, 65, 65, 65, c), 9);
            }
        }
        rightValue(TEXT, bytes(1, 2, 32, 126));
        rightValue(TEXT, bytes(1, 2, 33, 125));
    }

    // "ROW: a byte n, 0 .. 40"

    private static void rowHasUpTo40() {
        int[] lists = listType(UNIT);
        int[] right = {0, 1, 2, 39, 40};
        for (int n : right) {
            rightValue(lists, many(n, THE_UNIT));
            unreadable("a row of " + n + " and one more", join(many(n, THE_UNIT), THE_UNIT), 2 + 2 * n);
        }
        unreadable("a row of 40 and one less", join(bytes(2, 40), join(times(39, THE_UNIT))), 80);
        for (int n = 41; n < 256; n++) {
            unreadable("a row of " + n, join(bytes(2, n), join(times(41, THE_UNIT))), 1);
        }
        unreadable("a row of 41 with nothing behind it", bytes(2, 41), 1);
        unreadable("a row without its n", bytes(2), 1);
    }

    // "4 + n, n 0 .. 3: a WORD: a byte, its code, and n nodes, its PARTS"

    private static void wordHasUpTo3Parts() {
        for (int n = 0; n <= 3; n++) {
            int[] parts = join(times(n, ONE));
            readable("a word with " + n, join(bytes(4 + n, 99), parts));
            unreadable("a word with " + n + " and one more", join(bytes(4 + n, 99), parts, ONE), 2 + 2 * n);
            if (n > 0) {
                unreadable("a word with " + n + " and one less", join(bytes(4 + n, 99), join(times(n - 1, ONE))), 2 * n);
            }
            unreadable("a word without its code", bytes(4 + n), 1);
        }
        unreadable("a word with 4", join(bytes(8, 99), join(times(4, ONE))), 0);
    }

    private static void wordHasAnyCode() {
        for (int code = 0; code < 256; code++) {
            if (code != 20) {
                readable("a word with code " + code, word(code));
            }
        }
    }

    /** A number in words, or in rows, so that it lies this deep. */
    private static int[] nested(int depth, boolean inRows) {
        int[] node = ONE;
        for (int i = 1; i < depth; i++) {
            node = inRows ? row(node) : word(99, node);
        }
        return node;
    }

    // "A node lies at most 9 deep (one of those that stand one behind the other is at depth 1, what is in a node is
    // one deeper)", "of a node too deep .. its first one"

    private static void nineDeep() {
        boolean[] both = {false, true};
        for (boolean inRows : both) {
            readable("8 deep", nested(8, inRows));
            readable("9 deep", nested(9, inRows));
            unreadable("10 deep", nested(10, inRows), 18);
            unreadable("11 deep", nested(11, inRows), 18);
        }
        readable("9 deep as third parts", word(99, ONE, ONE, word(99, ONE, ONE, nested(7, false))));
        unreadable("10 deep as third parts", word(99, ONE, ONE, word(99, ONE, ONE, nested(8, false))), 12 + 14);
        readable("an empty row 9 deep", join(bytes(2, 1, 2, 1, 2, 1, 2, 1, 2, 1, 2, 1, 2, 1, 2, 1), row()));
        unreadable("a byte that is no node 10 deep", join(Arrays.copyOf(nested(10, true), 18), bytes(200)), 18);
        unreadable("nothing where a node would be 10 deep", Arrays.copyOf(nested(10, true), 18), 18);
        unreadable("a second one that is too deep", row(ONE, nested(9, true)), 4 + 16);
        readable("deep ones one behind the other", row(nested(8, true), nested(8, false)));
    }

    private static void nineDeepInEachNodeOfAScript() {
        int[][] nodes = {NAT, NAT, NAT, row(), ONE};
        int place = 0;
        for (int i = 0; i < nodes.length; i++) {
            int[][] changed = nodes.clone();
            changed[i] = nested(9, false);
            ill("node " + i + " with one 9 deep", join(changed), place);
            changed[i] = nested(10, false);
            refused("node " + i + " with one 10 deep", join(changed), ILLEGAL_ARGUMENT, place + 18);
            place += nodes[i].length;
        }
    }

    private static void nineDeepInAParameterAndAKey() {
        // Each map takes two: its row and its word 28.
        int[] type = optionType(NAT);
        int[] entered = NO_VALUE;
        int[] tooDeep = some(ONE);
        for (int i = 0; i < 4; i++) {
            type = mapType(NAT, type);
            entered = row(entry(ONE, entered));
            tooDeep = row(entry(ONE, tooDeep));
        }
        PactLedger ledger = deployed(echo(type, NAT, ONE));
        due("call with a node 9 deep", call(ledger, 0, entered, 1, 1), "0");
        due("output", output(ledger), entered);
        due("call with a node 10 deep", call(ledger, 0, tooDeep, 1, 1), ILLEGAL_ARGUMENT);
        due("wrong()", ledger.wrong(), tooDeep.length - 2);
        PactLedger keys = deployed(echo(NAT, pairType(bigType(NAT, NAT), NAT), pair(row(), ONE)));
        put(keys, nested(9, false));
        due("find of a node 9 deep", answer(() -> keys.find(0)), ILLEGAL_ARGUMENT);
        due("wrong()", keys.wrong(), 0);
        put(keys, nested(10, false));
        due("find of a node 10 deep", answer(() -> keys.find(0)), ILLEGAL_ARGUMENT);
        due("wrong()", keys.wrong(), 18);
    }

    /** A row of rows with this many nodes in all, from 85 to 124. */
    private static int[] nodes(int n) {
        return row(many(40, THE_UNIT), many(40, THE_UNIT), many(n - 84, THE_UNIT));
    }

    // "there are at most 100", "or the 101st its first one"

    private static void hundredNodes() {
        // UNIT, UNIT, UNIT and the code are four of them.
        readable("99 nodes", nodes(95));
        readable("100 nodes", nodes(96));
        unreadable("101 nodes", nodes(97), 192);
        unreadable("102 nodes", nodes(98), 192);
        unreadable("100 nodes and a byte that is none", join(Arrays.copyOf(nodes(97), 192), bytes(200)), 192);
        unreadable("100 nodes, one must come", Arrays.copyOf(nodes(97), 192), 192);
        unreadable("100 nodes and a sixth one", join(nodes(96), ONE), 192);
        int[] lists = listType(listType(UNIT));
        // UNIT, UNIT, the three words of the type and the code are six.
        kept("100 nodes that are right", echo(UNIT, lists, nodes(94)));
        refused("101 nodes that were right", echo(UNIT, lists, nodes(95)), ILLEGAL_ARGUMENT, 12 + 188);
    }

    private static void hundredNodesOfAParameterAndAKey() {
        PactLedger ledger = deployed(echo(listType(listType(UNIT)), NAT, ONE));
        int[] right = {99, 100};
        for (int n : right) {
            due("call with " + n + " nodes", call(ledger, 0, nodes(n), 1, 1), "0");
            due("wrong()", ledger.wrong(), -1);
            due("bytes of the output", ledger.count(2), 2 * n);
        }
        due("call with 101 nodes", call(ledger, 0, nodes(101), 1, 1), ILLEGAL_ARGUMENT);
        due("wrong()", ledger.wrong(), 200);
        PactLedger keys = deployed(echo(NAT, pairType(bigType(NAT, NAT), NAT), pair(row(), ONE)));
        int[] counts = {99, 100, 101};
        for (int n : counts) {
            put(keys, nodes(n));
            due("find of " + n + " nodes", answer(() -> keys.find(0)), ILLEGAL_ARGUMENT);
            due("wrong()", keys.wrong(), n > 100 ? 200 : 0);
        }
    }

    private static void nodesAreCountedAnewEachTime() {
        PactLedger ledger = deployed(echo(listType(listType(UNIT)), NAT, ONE));
        for (int i = 0; i < 5; i++) {
            due("call with 100 nodes", call(ledger, 0, nodes(100), 1, 1), "0");
            due("call with 101 nodes", call(ledger, 0, nodes(101), 1, 1), ILLEGAL_ARGUMENT);
        }
        for (int c = 1; c < 4; c++) {
            put(ledger, echo(UNIT, listType(listType(UNIT)), nodes(94)));
            due("deploy() of 100 nodes", answer(ledger::deploy), Integer.toString(c));
        }
    }
}
