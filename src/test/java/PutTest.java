/** Promise 2: put. */
public final class PutTest {
    public static void main(String[] args) {
        highestByteFirst();
        wrongCounts();
        atMost240();
        Ledgers.end();
    }

    private static void highestByteFirst() {
        // UNIT UNIT INT, an empty row, 0 as a number: the bytes tell whether their order is right.
        PactLedger ledger = new PactLedger();
        Ledgers.due("put of 8", ledger.put(0x0400040004020201L, 8), 8);
        Ledgers.due("put of 2, more in the word", ledger.put(0x7777777777770425L, 2), 10);
        Ledgers.due("put of 1", ledger.put(0xFFFFFFFFFFFFFF00L, 1), 11);
        Ledgers.due("put of 1", ledger.put(-251L, 1), 12);
        Ledgers.due("deploy()", Ledgers.answer(ledger::deploy), Ledgers.UNSUPPORTED);
        Ledgers.due("wrong()", ledger.wrong(), 6);
        int[] parameter = Ledgers.num(0x1234567);
        PactLedger echo = Ledgers.deployed(Ledgers.pure(Ledgers.INT, Ledgers.INT));
        long word = 0;
        for (int octet : parameter) {
            word = word << 8 | octet;
        }
        Ledgers.due("put of the parameter", echo.put(word, parameter.length), parameter.length);
        Ledgers.due("call", Ledgers.answer(() -> echo.call(0, 1, 9)), "4");
        Ledgers.due("output", Ledgers.output(echo), parameter);
    }

    private static void wrongCounts() {
        PactLedger ledger = new PactLedger();
        ledger.put(1, 3);
        int[] counts = {0, 9, -1, 64, Integer.MAX_VALUE, Integer.MIN_VALUE};
        for (int n : counts) {
            Ledgers.due("put(5, " + n + ")", Ledgers.answer(() -> ledger.put(5, n)), Ledgers.ILLEGAL_ARGUMENT);
            Ledgers.due("buffer", ledger.count(1), 3);
        }
    }

    private static void atMost240() {
        PactLedger ledger = new PactLedger();
        for (int i = 1; i <= 29; i++) {
            Ledgers.due("put of 8", ledger.put(0, 8), 8 * i);
        }
        Ledgers.due("put of 3", ledger.put(0, 3), 235);
        Ledgers.due("put of 6", Ledgers.answer(() -> ledger.put(0, 6)), Ledgers.ILLEGAL_STATE);
        Ledgers.due("buffer", ledger.count(1), 235);
        Ledgers.due("put of 5", Ledgers.answer(() -> ledger.put(0, 5)), "240");
        Ledgers.due("put of 1", Ledgers.answer(() -> ledger.put(0, 1)), Ledgers.ILLEGAL_STATE);
        Ledgers.due("put of 9 in a full buffer", Ledgers.answer(() -> ledger.put(0, 9)), Ledgers.ILLEGAL_ARGUMENT);
        Ledgers.due("buffer", ledger.count(1), 240);
    }
}
