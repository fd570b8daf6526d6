/** Promise 10: count. */
public final class CountTest {
    public static void main(String[] args) {
        PactLedger ledger = new PactLedger();
        int[] others = {-1, 3, 4, Integer.MAX_VALUE, Integer.MIN_VALUE};
        for (int what : others) {
            Ledgers.due("count(" + what + ")", ledger.count(what), -1);
        }
        int[] script = Ledgers.echo(Ledgers.NAT, Ledgers.NAT, Ledgers.num(1000));
        for (int i = 0; i < 4; i++) {
            Ledgers.due("contracts", ledger.count(0), i);
            Ledgers.put(ledger, script);
            Ledgers.due("bytes in the buffer", ledger.count(1), script.length);
            Ledgers.due("deploy()", Ledgers.answer(ledger::deploy), Integer.toString(i));
            Ledgers.due("bytes in the buffer", ledger.count(1), 0);
        }
        Ledgers.due("contracts", ledger.count(0), 4);
        Ledgers.due("bytes of the output", ledger.count(2), 0);
        ledger.storage(3);
        Ledgers.due("bytes of the output", ledger.count(2), 3);
        bufferIsEmptyAfterEachUse(ledger);
        Ledgers.end();
    }

    private static void bufferIsEmptyAfterEachUse(PactLedger ledger) {
        ledger.put(1, 5);
        Ledgers.due("a fifth", Ledgers.answer(ledger::deploy), Ledgers.ILLEGAL_STATE);
        Ledgers.due("buffer after deploy()", ledger.count(1), 0);
        Ledgers.due("contracts", ledger.count(0), 4);
        Ledgers.due("output after deploy()", ledger.count(2), 3);
        ledger.put(1, 5);
        Ledgers.due("find", Ledgers.answer(() -> ledger.find(0)), Ledgers.ILLEGAL_ARGUMENT);
        Ledgers.due("buffer after find()", ledger.count(1), 0);
        ledger.put(1, 5);
        Ledgers.due("call", Ledgers.answer(() -> ledger.call(4, 1, 1)), Ledgers.ILLEGAL_ARGUMENT);
        Ledgers.due("buffer after call()", ledger.count(1), 0);
        Ledgers.due("output after call()", ledger.count(2), 0);
        ledger.put(1, 5);
        ledger.storage(0);
        Ledgers.answer(() -> ledger.storage(9));
        Ledgers.due("buffer after storage()", ledger.count(1), 5);
        Ledgers.due("output after storage()", ledger.count(2), 3);
    }
}
