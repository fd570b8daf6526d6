import java.math.BigInteger;
import java.util.Arrays;

/** What the tests share: nodes as bytes, scripts, and the comparing of answers; tests may extend it for short names. */
class Ledgers {
    interface Call {
        int answer();
    }

    static final String ILLEGAL_ARGUMENT = "throws.IllegalArgumentException";
    static final String ILLEGAL_STATE = "throws.IllegalStateException";
    static final String ARITHMETIC = "throws.ArithmeticException";
    static final String UNSUPPORTED = "throws.UnsupportedOperationException";

    static final int[] UNIT = word(0);
    static final int[] BOOL = word(1);
    static final int[] INT = word(2);
    static final int[] NAT = word(3);
    static final int[] TEXT = word(4);

    static final int[] THE_UNIT = word(20);
    static final int[] FALSE = word(21);
    static final int[] TRUE = word(22);
    static final int[] NO_VALUE = word(24);

    static final int[] DROP = word(30);
    static final int[] DUP = word(31);
    static final int[] SWAP = word(32);
    static final int[] PUSH_UNIT = word(35);
    static final int[] PAIR = word(36);
    static final int[] CAR = word(37);
    static final int[] CDR = word(38);
    static final int[] SOME = word(39);
    static final int[] CONS = word(46);
    static final int[] SIZE = word(48);
    static final int[] FAIL = word(76);

    static final int[] NOTHING = {};
    static final int[] ONE = num(1);
    // Where the first instruction of natScript() stands, behind NAT, NAT, NAT and the row's two bytes.
    static final int FIRST = 8;

    private static int wrong = 0;

    // Nodes.

    static int[] bytes(int... bytes) {
        return bytes;
    }

    static int[] join(int[]... parts) {
        int length = 0;
        for (int[] part : parts) {
            length += part.length;
        }
        int[] all = new int[length];
        int at = 0;
        for (int[] part : parts) {
            System.arraycopy(part, 0, all, at, part.length);
            at += part.length;
        }
        return all;
    }

    static int[] word(int code, int[]... parts) {
        return join(bytes(4 + parts.length, code), join(parts));
    }

    static int[] row(int[]... parts) {
        return join(bytes(2, parts.length), join(parts));
    }

    static int[] text(String text) {
        int[] all = new int[text.length() + 2];
        all[0] = 1;
        all[1] = text.length();
        for (int i = 0; i < text.length(); i++) {
            all[i + 2] = text.charAt(i);
        }
        return all;
    }

    static int[] num(long n) {
        return num(BigInteger.valueOf(n));
    }

    static int[] num(BigInteger n) {
        BigInteger rest = n.abs();
        int[] all = new int[40];
        int length = 2;
        all[1] = rest.intValue() & 63 | (n.signum() < 0 ? 64 : 0);
        rest = rest.shiftRight(6);
        while (rest.signum() != 0) {
            all[length - 1] |= 128;
            all[length] = rest.intValue() & 127;
            rest = rest.shiftRight(7);
            length++;
        }
        return Arrays.copyOf(all, length);
    }

    static BigInteger power(int bits) {
        return BigInteger.ONE.shiftLeft(bits);
    }

    static int[] pairType(int[] a, int[] b) {
        return word(5, a, b);
    }

    static int[] optionType(int[] a) {
        return word(6, a);
    }

    static int[] orType(int[] a, int[] b) {
        return word(7, a, b);
    }

    static int[] listType(int[] a) {
        return word(8, a);
    }

    static int[] mapType(int[] k, int[] a) {
        return word(9, k, a);
    }

    static int[] bigType(int[] k, int[] a) {
        return word(10, k, a);
    }

    static int[] pair(int[] a, int[] b) {
        return word(23, a, b);
    }

    static int[] some(int[] a) {
        return word(25, a);
    }

    static int[] left(int[] a) {
        return word(26, a);
    }

    static int[] right(int[] a) {
        return word(27, a);
    }

    static int[] entry(int[] key, int[] value) {
        return word(28, key, value);
    }

    static int[] push(int[] type, int[] value) {
        return word(34, type, value);
    }

    static int[] nil(int[] type) {
        return word(45, type);
    }

    static int[] none(int[] type) {
        return word(40, type);
    }

    static int[] dip(int[]... code) {
        return word(33, row(code));
    }

    static int[] iter(int[]... code) {
        return word(49, row(code));
    }

    static int[] mapEach(int[]... code) {
        return word(50, row(code));
    }

    static int[] loop(int[]... code) {
        return word(59, row(code));
    }

    /** A list of numbers. */
    static int[] numbers(int... numbers) {
        int[][] all = new int[numbers.length][];
        for (int i = 0; i < numbers.length; i++) {
            all[i] = num(numbers[i]);
        }
        return row(all);
    }

    /** A map of numbers. */
    static int[] map(int... keysAndValues) {
        int[][] all = new int[keysAndValues.length / 2][];
        for (int i = 0; i < all.length; i++) {
            all[i] = entry(num(keysAndValues[2 * i]), num(keysAndValues[2 * i + 1]));
        }
        return row(all);
    }

    /** Instructions without parts. */
    static int[][] steps(int... codes) {
        int[][] all = new int[codes.length][];
        for (int i = 0; i < codes.length; i++) {
            all[i] = word(codes[i]);
        }
        return all;
    }

    static int[] code(int[][]... steps) {
        int n = 0;
        int[] all = {};
        for (int[][] some : steps) {
            for (int[] step : some) {
                all = join(all, step);
                n++;
            }
        }
        return join(bytes(2, n), all);
    }

    static int[][] step(int[] step) {
        return new int[][] {step};
    }

    /** A row of so many equal nodes. */
    static int[] many(int n, int[] node) {
        return row(times(n, node));
    }

    static int[] script(int[] parameter, int[] result, int[] storage, int[] code, int[] value) {
        return join(parameter, result, storage, code, value);
    }

    /** A script on NATs alone, so that its code begins with the pair of two of them. */
    static int[] natScript(int[]... code) {
        return script(NAT, NAT, NAT, row(code), ONE);
    }

    /** So many equal nodes one behind the other. */
    static int[][] times(int n, int[] node) {
        int[][] all = new int[n][];
        Arrays.fill(all, node);
        return all;
    }

    /** These nodes and those behind them. */
    static int[][] then(int[][] nodes, int[]... more) {
        int[][] all = Arrays.copyOf(nodes, nodes.length + more.length);
        System.arraycopy(more, 0, all, nodes.length, more.length);
        return all;
    }

    /** A script whose code works on the parameter alone and leaves the result; the storage is a unit. */
    static int[] pure(int[] parameter, int[] result, int[][]... body) {
        int[] inner = code(body);
        int[] all = join(word(37), Arrays.copyOfRange(inner, 2, inner.length), word(35), word(32), word(36));
        return script(parameter, result, UNIT, join(bytes(2, inner[1] + 4), all), THE_UNIT);
    }

    /** A script that leaves its parameter as the result and its storage as it is. */
    static int[] echo(int[] parameter, int[] storage, int[] value) {
        return script(parameter, parameter, storage, row(), value);
    }

    /** Code that updates the map or BIG that is first in the storage, for the parameter as key; 14 instructions. */
    static int[] updating(int[] pushOption) {
        return code(steps(31, 37), step(word(33, code(steps(38, 31, 38, 32, 37)))), step(pushOption),
            steps(32, 53, 36, 35, 36));
    }

    // Calls.

    static PactLedger put(PactLedger ledger, int[] bytes) {
        for (int at = 0; at < bytes.length; at += 8) {
            int n = Math.min(8, bytes.length - at);
            long word = 0;
            for (int i = 0; i < n; i++) {
                word = word << 8 | bytes[at + i];
            }
            ledger.put(word, n);
        }
        return ledger;
    }

    static PactLedger deployed(int[] script) {
        PactLedger ledger = put(new PactLedger(), script);
        due("deploy() of " + told(script), answer(ledger::deploy), "0");
        return ledger;
    }

    static String answer(Call call) {
        try {
            return Integer.toString(call.answer());
        } catch (RuntimeException e) {
            return "throws." + e.getClass().getSimpleName();
        }
    }

    static String call(PactLedger ledger, int c, int[] parameter, int bits, int cost) {
        put(ledger, parameter);
        return answer(() -> ledger.call(c, bits, cost));
    }

    static String find(PactLedger ledger, int c, int[] key) {
        put(ledger, key);
        return answer(() -> ledger.find(c));
    }

    static int[] output(PactLedger ledger) {
        int[] all = new int[ledger.count(2)];
        for (int i = 0; i < all.length; i++) {
            all[i] = ledger.octet(i);
        }
        return all;
    }

    static int[] storage(PactLedger ledger, int c) {
        ledger.storage(c);
        return output(ledger);
    }

    // Comparing.

    static String told(int[] bytes) {
        return Arrays.toString(bytes);
    }

    static void due(String what, String got, String want) {
        if (!got.equals(want)) {
            wrong++;
            System.out.println(what + " answered " + got + ", due is " + want);
        }
    }

    static void due(String what, int got, int want) {
        due(what, Integer.toString(got), Integer.toString(want));
    }

    static void due(String what, int[] got, int[] want) {
        due(what, told(got), told(want));
    }

    /** That deploy() refuses a buffer in this way and at this place. */
    static void refused(String what, int[] buffer, String how, int place) {
        PactLedger ledger = put(new PactLedger(), buffer);
        due(what + ": deploy()", answer(ledger::deploy), how);
        due(what + ": wrong()", ledger.wrong(), place);
        due(what + ": contracts", ledger.count(0), 0);
        due(what + ": bytes in the buffer", ledger.count(1), 0);
    }

    /** That a script is ILL at this place. */
    static void ill(String what, int[] script, int place) {
        refused(what, script, UNSUPPORTED, place);
    }

    /** That a script is kept. */
    static void kept(String what, int[] script) {
        PactLedger ledger = put(new PactLedger(), script);
        due(what + ": deploy()", answer(ledger::deploy), "0");
        due(what + ": wrong()", ledger.wrong(), PactLedger.NONE);
    }

    /** That code on a stack with the pair of two NATs alone is ILL so far behind its first instruction. */
    static void illCode(String what, int place, int[]... code) {
        ill(what, natScript(code), FIRST + place);
    }

    static void keptCode(String what, int[]... code) {
        kept(what, natScript(code));
    }

    /** That a node can be read: in a script that is right up to it, it is no more than ILL. */
    static void readable(String what, int[] node) {
        ill(what, echo(UNIT, UNIT, node), FIRST);
    }

    /** That a node can't be read, so far behind its first byte. */
    static void unreadable(String what, int[] node, int place) {
        refused(what, echo(UNIT, UNIT, node), ILLEGAL_ARGUMENT, FIRST + place);
    }

    /** That this is a value of the type, as storage, of PUSH, and as a parameter that comes back as the result. */
    static void rightValue(int[] type, int[] value) {
        String what = told(value) + " of type " + told(type);
        kept(what + " as storage", echo(NAT, type, value));
        keptCode(what + " of PUSH", push(type, value), DROP);
        PactLedger ledger = deployed(echo(type, NAT, ONE));
        due(what + " as parameter", call(ledger, 0, value, 1, 1), "0");
        due(what + " as parameter, wrong()", ledger.wrong(), PactLedger.NONE);
        due(what + " as result", output(ledger), value);
    }

    /** That this is no value of the type, and so far behind its first byte. */
    static void illValue(String what, int[] type, int[] value, int place) {
        int[] script = echo(NAT, type, value);
        ill(what + " as storage", script, script.length - value.length + place);
        illCode(what + " of PUSH", 2 + type.length + place, push(type, value));
        PactLedger ledger = deployed(echo(type, NAT, ONE));
        due(what + " as parameter", call(ledger, 0, value, 1, 1), ILLEGAL_ARGUMENT);
        due(what + " as parameter, wrong()", ledger.wrong(), place);
    }

    /** That code gives this result for a parameter, at this cost; four more of it stand around the code. */
    static void gives(int[] parameter, int[] result, int[] value, int[] want, int cost, int[]... code) {
        PactLedger ledger = deployed(pure(parameter, result, code));
        String what = "call with " + told(value) + " of " + told(row(code));
        due(what, call(ledger, 0, value, 120, 150), Integer.toString(cost + 4));
        due("output of " + what, output(ledger), want);
        due("storage after " + what, storage(ledger, 0), THE_UNIT);
    }

    static void end() {
        if (wrong != 0) {
            System.out.println(wrong + " answers are not as due");
            System.exit(1);
        }
        System.out.println("all answers are as due");
    }
}
