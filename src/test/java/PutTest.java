/** Promise 2: put, and of Terms the buffer's 240 bytes. */
public final class PutTest extends Ledgers {
    public static void main(String[] args) {
        highestByteFirst();
        lowestBytesOfTheWord();
        nIsFrom1To8();
        atMost240();
        fullByEachN();
        nIsAskedAheadOfTheRoom();
        emptyAfterUseAndFullAgain();
        all240AreRead();
        end();
    }

    private static void highestByteFirst() {
        // UNIT UNIT INT, an empty row, 0 as a number: the bytes tell whether their order is right.
        PactLedger ledger = new PactLedger();
        due("put of 8", ledger.put(0x0400040004020201L, 8), 8);
        due("put of 2, more in the word", ledger.put(0x7777777777770425L, 2), 10);
        due("put of 1", ledger.put(0xFFFFFFFFFFFFFF00L, 1), 11);
        due("put of 1", ledger.put(-251L, 1), 12);
        due("deploy()", answer(ledger::deploy), UNSUPPORTED);
        due("wrong()", ledger.wrong(), 6);
        int[] parameter = num(0x1234567);
        PactLedger echo = deployed(pure(INT, INT));
        long word = 0;
        for (int octet : parameter) {
            word = word << 8 | octet;
        }
        due("put of the parameter", echo.put(word, parameter.length), parameter.length);
        due("call", answer(() -> echo.call(0, 1, 9)), "4");
        due("output", output(echo), parameter);
    }

    // "Appends the n lowest bytes of word (n is 1 .. 8), the highest of them first"

    private static void lowestBytesOfTheWord() {
        long[] words = {0x4142434445464748L, 0x7E7D7C7B7A797877L};
        for (long word : words) {
            for (int n = 1; n <= 8; n++) {
                PactLedger ledger = deployed(echo(TEXT, UNIT, THE_UNIT));
                ledger.put(0x5555555555550100L | n, 2);
                due("put of " + n, ledger.put(word, n), 2 + n);
                due("call", answer(() -> ledger.call(0, 1, 1)), "0");
                int[] want = new int[2 + n];
                want[0] = 1;
                want[1] = n;
                for (int i = 0; i < n; i++) {
                    want[2 + i] = (int) (word >> (8 * (n - 1 - i))) & 255;
                }
                due("the bytes of a put of " + n, output(ledger), want);
            }
        }
        PactLedger ledger = deployed(echo(INT, UNIT, THE_UNIT));
        ledger.put(Long.MIN_VALUE, 8);
        due("the highest byte of the least long", answer(() -> ledger.call(0, 1, 1)), ILLEGAL_ARGUMENT);
        due("wrong()", ledger.wrong(), 0);
        ledger.put(Long.MIN_VALUE, 7);
        due("the bytes below it", answer(() -> ledger.call(0, 1, 1)), ILLEGAL_ARGUMENT);
        due("wrong()", ledger.wrong(), 2);
    }

    // "IllegalArgumentException: n is not so."

    private static void nIsFrom1To8() {
        PactLedger ledger = new PactLedger();
        ledger.put(1, 3);
        int[] counts = {0, 9, -1, 10, 64, 240, 256, 257, Integer.MAX_VALUE, Integer.MIN_VALUE, Integer.MIN_VALUE + 1};
        for (int n : counts) {
            due("put(5, " + n + ")", answer(() -> ledger.put(5, n)), ILLEGAL_ARGUMENT);
            due("buffer", ledger.count(1), 3);
        }
        due("put of 1", answer(() -> ledger.put(5, 1)), "4");
        due("put of 8", answer(() -> ledger.put(5, 8)), "12");
    }

    // "IllegalStateException: there would be more than 240.", "THE BUFFER has at most 240 bytes"

    private static void atMost240() {
        PactLedger ledger = filled(239);
        due("put of 2 behind 239", answer(() -> ledger.put(0, 2)), ILLEGAL_STATE);
        due("buffer", ledger.count(1), 239);
        due("put of 1 behind 239", answer(() -> ledger.put(0, 1)), "240");
        due("put of 1 behind 240", answer(() -> ledger.put(0, 1)), ILLEGAL_STATE);
        due("put of 8 behind 240", answer(() -> ledger.put(0, 8)), ILLEGAL_STATE);
        due("buffer", ledger.count(1), 240);
    }

    private static PactLedger filled(int length) {
        return put(new PactLedger(), new int[length]);
    }

    private static void fullByEachN() {
        for (int n = 1; n <= 8; n++) {
            int each = n;
            PactLedger below = filled(239 - n);
            due(n + " behind " + (239 - n), answer(() -> below.put(0, each)), "239");
            PactLedger just = filled(240 - n);
            due(n + " behind " + (240 - n), answer(() -> just.put(0, each)), "240");
            PactLedger above = filled(241 - n);
            due(n + " behind " + (241 - n), answer(() -> above.put(0, each)), ILLEGAL_STATE);
            due("none of them were appended", above.count(1), 241 - n);
            if (n > 1) {
                due("one less behind " + (241 - n), answer(() -> above.put(0, each - 1)), "240");
            }
        }
    }

    private static void nIsAskedAheadOfTheRoom() {
        PactLedger ledger = filled(240);
        int[] counts = {0, 9, -1, Integer.MAX_VALUE, Integer.MIN_VALUE};
        for (int n : counts) {
            due("put of " + n + " in a full buffer", answer(() -> ledger.put(0, n)), ILLEGAL_ARGUMENT);
        }
        due("buffer", ledger.count(1), 240);
    }

    private static void emptyAfterUseAndFullAgain() {
        PactLedger ledger = filled(240);
        due("deploy() of a full buffer", answer(ledger::deploy), ILLEGAL_ARGUMENT);
        due("put behind it", answer(() -> ledger.put(0, 8)), "8");
        put(ledger, new int[232]);
        due("buffer", ledger.count(1), 240);
        due("put in a buffer that is full again", answer(() -> ledger.put(0, 1)), ILLEGAL_STATE);
    }

    /** A script of so many bytes, from 234 to 240: its storage is a list of 22 texts of 8 and one that fills up. */
    private static int[] longScript(int length) {
        int[][] texts = then(times(22, text("abcdefgh")), text("12345678".substring(0, length - 234)));
        return echo(NAT, listType(TEXT), row(texts));
    }

    private static void all240AreRead() {
        for (int length = 238; length <= 240; length++) {
            int[] script = longScript(length);
            due("length of the script", script.length, length);
            PactLedger ledger = deployed(script);
            due("storage(0)", ledger.storage(0), length - 10);
            due("its last byte", ledger.octet(length - 11), script[length - 1]);
        }
        int[] cut = longScript(240);
        cut[11]++;
        refused("240 bytes, and more must come", cut, ILLEGAL_ARGUMENT, 240);
        int[] bad = longScript(240);
        bad[239] = 127;
        refused("byte 239 is wrong", bad, ILLEGAL_ARGUMENT, 239);
        refused("one byte too much at 239", join(longScript(239), bytes(0)), ILLEGAL_ARGUMENT, 239);
    }
}
