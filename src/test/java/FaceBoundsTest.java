import java.math.BigInteger;

/** Promises 3 and 5 to 10, the bounds of what is asked for: contracts, bits, cost, places of the output, and what. */
public final class FaceBoundsTest extends Ledgers {
    private static final int[] BIG = pairType(bigType(NAT, TEXT), NAT);
    private static final int[] FAR = {-2, 5, 6, 255, 256, Integer.MIN_VALUE, Integer.MIN_VALUE + 1, Integer.MAX_VALUE};

    public static void main(String[] args) {
        contractsFrom0To3();
        deployOfFiveNodes();
        deployOfASixth();
        callOfContracts();
        callWithBits();
        callWithCost();
        callOfOneValue();
        storageOfContracts();
        findOfContracts();
        findOfOneKey();
        octetsFromFirstToLast();
        octetsOfNoOutput();
        octetsOfTheLongestOutput();
        aboutOfContracts();
        aboutWhat();
        aboutCallsAndCosts();
        aboutKeys();
        aboutNodes();
        countWhat();
        countOfBytes();
        all512Calls();
        end();
    }

    /** A ledger with so many contracts, each with a BIG of as many keys as its number says. */
    private static PactLedger with(int contracts) {
        PactLedger ledger = new PactLedger();
        for (int c = 0; c < contracts; c++) {
            int[][] entries = new int[c][];
            for (int i = 0; i < c; i++) {
                entries[i] = entry(num(i), text("v"));
            }
            put(ledger, echo(NAT, BIG, pair(row(entries), num(40 + c))));
            due("deploy()", answer(ledger::deploy), Integer.toString(c));
        }
        return ledger;
    }

    // Promise 3: "its number, from 0. IllegalStateException: there are 4"

    private static void contractsFrom0To3() {
        for (int n = 0; n <= 4; n++) {
            PactLedger ledger = with(n);
            due("contracts", ledger.count(0), n);
            put(ledger, natScript());
            due("deploy() with " + n, answer(ledger::deploy), n < 4 ? Integer.toString(n) : ILLEGAL_STATE);
            due("contracts", ledger.count(0), Math.min(4, n + 1));
            due("deploy() of no bytes with " + ledger.count(0), answer(ledger::deploy),
                n < 3 ? ILLEGAL_ARGUMENT : ILLEGAL_STATE);
        }
    }

    // "IllegalArgumentException: the buffer is not five nodes"

    private static void deployOfFiveNodes() {
        int[][] nodes = {NAT, NAT, NAT, row(), ONE};
        for (int n = 0; n < 5; n++) {
            int[] fewer = join(java.util.Arrays.copyOf(nodes, n));
            refused(n + " nodes", fewer, ILLEGAL_ARGUMENT, fewer.length);
        }
        kept("5 nodes", join(nodes));
        refused("6 nodes", join(join(nodes), ONE), ILLEGAL_ARGUMENT, 10);
        refused("10 nodes", join(join(nodes), join(nodes)), ILLEGAL_ARGUMENT, 10);
    }

    // "(a sixth: too much, at its first byte, whatever it is)"

    private static void deployOfASixth() {
        for (int octet = 0; octet < 256; octet++) {
            refused("a sixth that begins with " + octet, join(natScript(), bytes(octet)), ILLEGAL_ARGUMENT, 10);
        }
        refused("a sixth behind an ILL one", join(natScript(DROP), ONE), ILLEGAL_ARGUMENT, 12);
        refused("a sixth that is too deep", join(natScript(), bytes(2, 1, 2, 1, 2, 1)), ILLEGAL_ARGUMENT, 10);
    }

    // Promise 5: "there is no such contract"

    private static void callOfContracts() {
        for (int n = 0; n <= 4; n++) {
            PactLedger ledger = with(n);
            for (int c = -1; c <= 4; c++) {
                due("call(" + c + ") with " + n, call(ledger, c, ONE, 1, 1), c < 0 || c >= n ? ILLEGAL_ARGUMENT : "0");
            }
            for (int c : FAR) {
                due("call(" + c + ") with " + n, call(ledger, c, ONE, 1, 1), ILLEGAL_ARGUMENT);
            }
        }
    }

    // "bits is not 1 .. 120"

    private static void callWithBits() {
        PactLedger ledger = with(1);
        for (int bits = -1; bits <= 122; bits++) {
            due("call with bits " + bits, call(ledger, 0, ONE, bits, 1), bits < 1 || bits > 120 ? ILLEGAL_ARGUMENT : "0");
        }
        int[] far = {Integer.MIN_VALUE, -120, 128, 256 + 1, 65536 + 1, Integer.MAX_VALUE};
        for (int bits : far) {
            due("call with bits " + bits, call(ledger, 0, ONE, bits, 1), ILLEGAL_ARGUMENT);
        }
    }

    // "cost is not 1 .. 150"

    private static void callWithCost() {
        PactLedger ledger = with(1);
        for (int cost = -1; cost <= 152; cost++) {
            due("call with cost " + cost, call(ledger, 0, ONE, 1, cost), cost < 1 || cost > 150 ? ILLEGAL_ARGUMENT : "0");
        }
        int[] far = {Integer.MIN_VALUE, -150, 256 + 1, 65536 + 1, Integer.MAX_VALUE};
        for (int cost : far) {
            due("call with cost " + cost, call(ledger, 0, ONE, 1, cost), ILLEGAL_ARGUMENT);
        }
    }

    // "or the buffer is not one value of the parameter's type"

    private static void callOfOneValue() {
        PactLedger ledger = with(1);
        int[][] buffers = {{}, {0}, {0, 1}, {0, 1, 0}, {0, 1, 0, 1}, {0, 1, 255}, {0, 65}, {0, 65, 255}, {1, 0}};
        int[] places = {0, 1, -1, 2, 2, 2, 0, 2, 0};
        for (int i = 0; i < buffers.length; i++) {
            due("call with " + told(buffers[i]), call(ledger, 0, buffers[i], 1, 1), places[i] < 0 ? "0" : ILLEGAL_ARGUMENT);
            due("wrong() of " + told(buffers[i]), ledger.wrong(), places[i]);
            due("output of " + told(buffers[i]), ledger.count(2), places[i] < 0 ? 2 : 0);
        }
    }

    // Promise 6: "there is no such contract (the output stays)"

    private static void storageOfContracts() {
        for (int n = 0; n <= 4; n++) {
            PactLedger ledger = with(n);
            if (n > 0) {
                due("storage(0)", answer(() -> ledger.storage(0)), "6");
            }
            int[] none = {-1, n, n + 1, 4, 5, Integer.MIN_VALUE, Integer.MAX_VALUE};
            for (int c : none) {
                due("storage(" + c + ") with " + n, answer(() -> ledger.storage(c)), ILLEGAL_ARGUMENT);
                due("output", ledger.count(2), n == 0 ? 0 : 6);
            }
            for (int c = 0; c < n; c++) {
                due("storage(" + c + ") with " + n, storage(ledger, c), pair(num(c), num(40 + c)));
            }
        }
    }

    // Promise 7: "there is no such contract, or it has no BIG .. (the output stays with each)"

    private static void findOfContracts() {
        for (int n = 0; n <= 4; n++) {
            PactLedger ledger = with(n);
            for (int c = 0; c < n; c++) {
                due("find(" + c + ") of its last key", find(ledger, c, num(c - 1 < 0 ? 0 : c - 1)), c == 0 ? "2" : "5");
                due("find(" + c + ") behind its last key", find(ledger, c, num(c)), "2");
                due("output", output(ledger), NO_VALUE);
            }
            int[] none = {-1, n, n + 1, 4, 5, Integer.MIN_VALUE, Integer.MAX_VALUE};
            for (int c : none) {
                due("find(" + c + ") with " + n, find(ledger, c, num(0)), ILLEGAL_ARGUMENT);
                due("output", ledger.count(2), n == 0 ? 0 : 2);
                due("bytes in the buffer", ledger.count(1), 0);
            }
        }
        int[][] types = {NAT, pairType(mapType(NAT, TEXT), NAT), mapType(NAT, TEXT), pairType(NAT, NAT)};
        int[][] values = {ONE, pair(row(), ONE), row(), pair(ONE, ONE)};
        for (int i = 0; i < types.length; i++) {
            PactLedger ledger = deployed(echo(NAT, types[i], values[i]));
            due("find where there is no BIG", find(ledger, 0, ONE), ILLEGAL_ARGUMENT);
            due("wrong()", ledger.wrong(), -1);
        }
    }

    // "or the buffer is not one value of the type of its keys"

    private static void findOfOneKey() {
        PactLedger ledger = deployed(echo(NAT, pairType(bigType(pairType(NAT, TEXT), BOOL), NAT),
            pair(row(entry(pair(ONE, text("a")), TRUE)), ONE)));
        int[] key = pair(ONE, text("a"));
        due("find", find(ledger, 0, key), "4");
        int[][] wrong = {{}, join(key, bytes(0)), java.util.Arrays.copyOf(key, key.length - 1), ONE, pair(ONE, ONE),
            pair(num(-1), text("a")), join(key, key)};
        int[] places = {0, key.length, key.length - 1, 0, 4, 2, key.length};
        for (int i = 0; i < wrong.length; i++) {
            due("find of " + told(wrong[i]), find(ledger, 0, wrong[i]), ILLEGAL_ARGUMENT);
            due("wrong()", ledger.wrong(), places[i]);
            due("output", output(ledger), some(TRUE));
        }
        due("find of one that is less", find(ledger, 0, pair(num(0), text("a"))), "2");
        due("find of one that is greater", find(ledger, 0, pair(ONE, text("a "))), "2");
    }

    // Promise 8: "Byte i of the output; NONE when there is none."

    private static void octetsFromFirstToLast() {
        PactLedger ledger = deployed(echo(INT, NAT, ONE));
        int[][] numbers = {
            num(0), num(-1), num(64), num(-8192), num(power(120).subtract(BigInteger.ONE).negate()), num(power(119))
        };
        for (int[] number : numbers) {
            due("call", call(ledger, 0, number, 1, 1), "0");
            due("octet(-1)", ledger.octet(-1), -1);
            for (int i = 0; i < number.length; i++) {
                due("octet(" + i + ")", ledger.octet(i), number[i]);
            }
            due("octet behind the last", ledger.octet(number.length), -1);
            due("octet behind that", ledger.octet(number.length + 1), -1);
            due("octet of the greatest int", ledger.octet(Integer.MAX_VALUE), -1);
            due("octet of the least int", ledger.octet(Integer.MIN_VALUE), -1);
        }
    }

    private static void octetsOfNoOutput() {
        PactLedger ledger = with(1);
        int[] places = {-1, 0, 1, 2685, 2686, 2687, Integer.MAX_VALUE, Integer.MIN_VALUE};
        for (int i : places) {
            due("octet(" + i + ") of no output", ledger.octet(i), -1);
        }
        ledger.storage(0);
        due("octet(0)", ledger.octet(0), 6);
        due("call that throws", call(ledger, 9, ONE, 1, 1), ILLEGAL_ARGUMENT);
        for (int i : places) {
            due("octet(" + i + ") of an output that is empty again", ledger.octet(i), -1);
        }
    }

    /** The longest output is a FAIL with pairs 8 deep of the longest number. */
    private static void octetsOfTheLongestOutput() {
        int[][] doubled = steps(37, 31, 36, 31, 36, 31, 36, 31, 36, 31, 36, 31, 36, 31, 36, 76);
        PactLedger ledger = deployed(script(INT, NAT, NAT, code(doubled), ONE));
        int[] number = num(power(120).subtract(BigInteger.ONE).negate());
        due("call", call(ledger, 0, number, 1, 150), UNSUPPORTED);
        int length = 128 * number.length + 127 * 2;
        due("bytes of the output", ledger.count(2), length);
        for (int i = 0; i < number.length; i++) {
            due("octet near the last", ledger.octet(length - number.length + i), number[i]);
        }
        due("octet behind the last", ledger.octet(length), -1);
    }

    // Promise 9: "NONE for another what, or when there is no such contract."

    private static void aboutOfContracts() {
        for (int n = 0; n <= 4; n++) {
            PactLedger ledger = with(n);
            for (int c = -1; c <= 4; c++) {
                for (int what = -1; what <= 6; what++) {
                    int[] right = {0, 1, 0, 0, c, 3 + 3 * c};
                    boolean none = c < 0 || c >= n || what < 0 || what > 5;
                    due("about(" + c + ", " + what + ") with " + n, ledger.about(c, what), none ? -1 : right[what]);
                }
            }
            for (int c : FAR) {
                due("about(" + c + ", 0) with " + n, ledger.about(c, 0), -1);
            }
        }
    }

    private static void aboutWhat() {
        PactLedger ledger = with(4);
        int[] others = {-1, 6, 7, 255, 256, Integer.MIN_VALUE, Integer.MAX_VALUE};
        for (int what : others) {
            due("about(3, " + what + ")", ledger.about(3, what), -1);
        }
        due("about(3, 0)", ledger.about(3, 0), 0);
        due("about(3, 5)", ledger.about(3, 5), 12);
    }

    // "2: calls that went well, 3: what these cost in all"

    private static void aboutCallsAndCosts() {
        // A text of more than 4 has SIZE, for it is joined with itself.
        PactLedger ledger = deployed(script(TEXT, TEXT, TEXT, code(steps(31, 37, 31, 75, 30)), text("s")));
        for (int calls = 0; calls < 30; calls++) {
            due("calls", ledger.about(0, 2), calls);
            due("costs", ledger.about(0, 3), 5 * calls);
            due("a call with SIZE", call(ledger, 0, text("12345"), 1, 150), ARITHMETIC);
            due("a call with COST", call(ledger, 0, text("1234"), 1, 4), ILLEGAL_STATE);
            due("a call with no value", call(ledger, 0, ONE, 1, 150), ILLEGAL_ARGUMENT);
            due("a call", call(ledger, 0, text("1234"), 1, 5), "5");
        }
        PactLedger most = deployed(pure(listType(NAT), UNIT, new int[][] {DUP, iter(DROP), iter(DROP)},
            steps(35, 31, 30)));
        for (int calls = 1; calls <= 20; calls++) {
            due("a call that costs 150", call(most, 0, many(35, ONE), 1, 150), "150");
            due("costs", most.about(0, 3), 150 * calls);
        }
    }

    // "4: keys of its BIG (NONE when it has none)"

    private static void aboutKeys() {
        int[][] types = {NAT, pairType(mapType(NAT, TEXT), NAT), mapType(NAT, TEXT), listType(NAT)};
        int[][] values = {ONE, pair(row(), ONE), row(), row()};
        for (int i = 0; i < types.length; i++) {
            due("no BIG", deployed(echo(NAT, types[i], values[i])).about(0, 4), -1);
        }
        due("an empty BIG", with(1).about(0, 4), 0);
        due("a BIG with one key", with(2).about(1, 4), 1);
        due("a BIG with two keys", with(3).about(2, 4), 2);
    }

    // "5: nodes of its storage (with the ROW of BIG)"

    private static void aboutNodes() {
        int[][] types = {
            NAT, TEXT, UNIT, BOOL, optionType(NAT), optionType(NAT), orType(NAT, NAT), pairType(NAT, NAT),
            listType(NAT), listType(NAT), listType(NAT), mapType(NAT, NAT), mapType(NAT, NAT), BIG, BIG
        };
        int[][] values = {
            ONE, text("abc"), THE_UNIT, TRUE, NO_VALUE, some(ONE), left(ONE), pair(ONE, ONE), row(), row(ONE),
            many(40, ONE), row(), map(1, 1, 2, 2), pair(row(), ONE), pair(row(entry(ONE, text("a"))), ONE)
        };
        int[] counts = {1, 1, 1, 1, 1, 2, 2, 3, 1, 2, 41, 1, 7, 3, 6};
        for (int i = 0; i < types.length; i++) {
            due("nodes of " + told(values[i]), deployed(echo(NAT, types[i], values[i])).about(0, 5), counts[i]);
        }
        // A script of 100 nodes has six beside its storage.
        int[] lists = row(many(40, THE_UNIT), many(40, THE_UNIT), many(10, THE_UNIT));
        due("the most that a script can have", deployed(echo(UNIT, listType(listType(UNIT)), lists)).about(0, 5), 94);
    }

    // Promise 10: "NONE for another what"

    private static void countWhat() {
        PactLedger ledger = with(2);
        ledger.put(1, 3);
        int[] right = {2, 3, 0};
        for (int what = -2; what <= 5; what++) {
            due("count(" + what + ")", ledger.count(what), what < 0 || what > 2 ? -1 : right[what]);
        }
        int[] far = {255, 256, Integer.MIN_VALUE, Integer.MAX_VALUE};
        for (int what : far) {
            due("count(" + what + ")", ledger.count(what), -1);
        }
    }

    private static void countOfBytes() {
        PactLedger ledger = new PactLedger();
        for (int n = 0; n < 240; n++) {
            due("bytes in the buffer", ledger.count(1), n);
            due("put", ledger.put(0, 1), n + 1);
        }
        due("bytes in a full buffer", ledger.count(1), 240);
        PactLedger echo = deployed(echo(listType(TEXT), NAT, ONE));
        for (int n = 0; n <= 20; n++) {
            due("call", call(echo, 0, many(n, text("abc")), 1, 1), "0");
            due("bytes of the output", echo.count(2), 2 + 5 * n);
        }
    }

    // "An object is used for at most 512 calls after it has been made"

    private static void all512Calls() {
        // Adds the parameter to the storage; three of put() and a deploy() come first.
        int[] code = code(steps(31, 38, 32, 37, 60, 31, 36));
        int[] script = script(NAT, NAT, NAT, code, num(0));
        due("length of the script", script.length, 24);
        PactLedger ledger = deployed(script);
        for (int used = 4; used < 510; used += 2) {
            due("call " + (used + 2), call(ledger, 0, ONE, 120, 150), "7");
        }
        due("call 511", ledger.about(0, 2), 253);
        due("call 512", ledger.about(0, 3), 7 * 253);
    }
}
