import java.math.BigInteger;
import java.util.Arrays;

/** What the tests share: nodes as bytes, scripts, and the comparing of answers. */
final class Ledgers {
    interface Call {
        int answer();
    }

    static final String ILLEGAL_ARGUMENT = "throws.IllegalArgumentException";
    static final String ILLEGAL_STATE = "throws.IllegalStateException";
    static final String ARITHMETIC = "throws.ArithmeticException";
    static final String UNSUPPORTED = "throws.UnsupportedOperationException";

    static final int[] UNIT = word(0);
    static final int[] BOOL = word(1);
    static final int[] INT = word(2);
    static final int[] NAT = word(3);
    static final int[] TEXT = word(4);

    static final int[] THE_UNIT = word(20);
    static final int[] FALSE = word(21);
    static final int[] TRUE = word(22);
    static final int[] NO_VALUE = word(24);

    private static int wrong = 0;

    private Ledgers() {
    }

    // Nodes.

    static int[] bytes(int... bytes) {
        return bytes;
    }

    static int[] join(int[]... parts) {
        int length = 0;
        for (int[] part : parts) {
            length += part.length;
        }
        int[] all = new int[length];
        int at = 0;
        for (int[] part : parts) {
            System.arraycopy(part, 0, all, at, part.length);
            at += part.length;
        }
        return all;
    }

    static int[] word(int code, int[]... parts) {
        return join(bytes(4 + parts.length, code), join(parts));
    }

    static int[] row(int[]... parts) {
        return join(bytes(2, parts.length), join(parts));
    }

    static int[] text(String text) {
        int[] all = new int[text.length() + 2];
        all[0] = 1;
        all[1] = text.length();
        for (int i = 0; i < text.length(); i++) {
            all[i + 2] = text.charAt(i);
        }
        return all;
    }

    static int[] num(long n) {
        return num(BigInteger.valueOf(n));
    }

    static int[] num(BigInteger n) {
        BigInteger rest = n.abs();
        int[] all = new int[40];
        int length = 2;
        all[1] = rest.intValue() & 63 | (n.signum() < 0 ? 64 : 0);
        rest = rest.shiftRight(6);
        while (rest.signum() != 0) {
            all[length - 1] |= 128;
            all[length] = rest.intValue() & 127;
            rest = rest.shiftRight(7);
            length++;
        }
        return Arrays.copyOf(all, length);
    }

    static BigInteger power(int bits) {
        return BigInteger.ONE.shiftLeft(bits);
    }

    static int[] pairType(int[] a, int[] b) {
        return word(5, a, b);
    }

    static int[] optionType(int[] a) {
        return word(6, a);
    }

    static int[] orType(int[] a, int[] b) {
        return word(7, a, b);
    }

    static int[] listType(int[] a) {
        return word(8, a);
    }

    static int[] mapType(int[] k, int[] a) {
        return word(9, k, a);
    }

    static int[] bigType(int[] k, int[] a) {
        return word(10, k, a);
    }

    static int[] pair(int[] a, int[] b) {
        return word(23, a, b);
    }

    static int[] some(int[] a) {
        return word(25, a);
    }

    static int[] left(int[] a) {
        return word(26, a);
    }

    static int[] right(int[] a) {
        return word(27, a);
    }

    static int[] entry(int[] key, int[] value) {
        return word(28, key, value);
    }

    static int[] push(int[] type, int[] value) {
        return word(34, type, value);
    }

    /** Instructions without parts. */
    static int[][] steps(int... codes) {
        int[][] all = new int[codes.length][];
        for (int i = 0; i < codes.length; i++) {
            all[i] = word(codes[i]);
        }
        return all;
    }

    static int[] code(int[][]... steps) {
        int n = 0;
        int[] all = {};
        for (int[][] some : steps) {
            for (int[] step : some) {
                all = join(all, step);
                n++;
            }
        }
        return join(bytes(2, n), all);
    }

    static int[][] step(int[] step) {
        return new int[][] {step};
    }

    /** A row of so many equal nodes. */
    static int[] many(int n, int[] node) {
        int[][] all = new int[n][];
        Arrays.fill(all, node);
        return row(all);
    }

    static int[] script(int[] parameter, int[] result, int[] storage, int[] code, int[] value) {
        return join(parameter, result, storage, code, value);
    }

    /** A script whose code works on the parameter alone and leaves the result; the storage is a unit. */
    static int[] pure(int[] parameter, int[] result, int[][]... body) {
        int[] inner = code(body);
        int[] all = join(word(37), Arrays.copyOfRange(inner, 2, inner.length), word(35), word(32), word(36));
        return script(parameter, result, UNIT, join(bytes(2, inner[1] + 4), all), THE_UNIT);
    }

    /** A script that leaves its parameter as the result and its storage as it is. */
    static int[] echo(int[] parameter, int[] storage, int[] value) {
        return script(parameter, parameter, storage, row(), value);
    }

    /** Code that updates the map or BIG that is first in the storage, for the parameter as key; 14 instructions. */
    static int[] updating(int[] pushOption) {
        return code(steps(31, 37), step(word(33, code(steps(38, 31, 38, 32, 37)))), step(pushOption),
            steps(32, 53, 36, 35, 36));
    }

    // Calls.

    static PactLedger put(PactLedger ledger, int[] bytes) {
        for (int at = 0; at < bytes.length; at += 8) {
            int n = Math.min(8, bytes.length - at);
            long word = 0;
            for (int i = 0; i < n; i++) {
                word = word << 8 | bytes[at + i];
            }
            ledger.put(word, n);
        }
        return ledger;
    }

    static PactLedger deployed(int[] script) {
        PactLedger ledger = put(new PactLedger(), script);
        due("deploy() of " + told(script), answer(ledger::deploy), "0");
        return ledger;
    }

    static String answer(Call call) {
        try {
            return Integer.toString(call.answer());
        } catch (RuntimeException e) {
            return "throws." + e.getClass().getSimpleName();
        }
    }

    static String call(PactLedger ledger, int c, int[] parameter, int bits, int cost) {
        put(ledger, parameter);
        return answer(() -> ledger.call(c, bits, cost));
    }

    static int[] output(PactLedger ledger) {
        int[] all = new int[ledger.count(2)];
        for (int i = 0; i < all.length; i++) {
            all[i] = ledger.octet(i);
        }
        return all;
    }

    static int[] storage(PactLedger ledger, int c) {
        ledger.storage(c);
        return output(ledger);
    }

    // Comparing.

    static String told(int[] bytes) {
        return Arrays.toString(bytes);
    }

    static void due(String what, String got, String want) {
        if (!got.equals(want)) {
            wrong++;
            System.out.println(what + " answered " + got + ", due is " + want);
        }
    }

    static void due(String what, int got, int want) {
        due(what, Integer.toString(got), Integer.toString(want));
    }

    static void due(String what, int[] got, int[] want) {
        due(what, told(got), told(want));
    }

    /** That deploy() refuses a buffer in this way and at this place. */
    static void refused(String what, int[] buffer, String how, int place) {
        PactLedger ledger = put(new PactLedger(), buffer);
        due(what + ": deploy()", answer(ledger::deploy), how);
        due(what + ": wrong()", ledger.wrong(), place);
        due(what + ": contracts", ledger.count(0), 0);
        due(what + ": bytes in the buffer", ledger.count(1), 0);
    }

    /** That a script is ILL at this place. */
    static void ill(String what, int[] script, int place) {
        refused(what, script, UNSUPPORTED, place);
    }

    /** That a script is kept. */
    static void kept(String what, int[] script) {
        PactLedger ledger = put(new PactLedger(), script);
        due(what + ": deploy()", answer(ledger::deploy), "0");
        due(what + ": wrong()", ledger.wrong(), PactLedger.NONE);
    }

    static void end() {
        if (wrong != 0) {
            System.out.println(wrong + " answers are not as due");
            System.exit(1);
        }
        System.out.println("all answers are as due");
    }
}
