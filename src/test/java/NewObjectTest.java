/** Promise 1: a new object. */
public final class NewObjectTest {
    public static void main(String[] args) {
        PactLedger ledger = new PactLedger();
        Ledgers.due("NONE", PactLedger.NONE, -1);
        Ledgers.due("contracts", ledger.count(0), 0);
        Ledgers.due("bytes in the buffer", ledger.count(1), 0);
        Ledgers.due("bytes of the output", ledger.count(2), 0);
        Ledgers.due("wrong()", ledger.wrong(), -1);
        Ledgers.due("octet(0)", ledger.octet(0), -1);
        Ledgers.due("about(0, 0)", ledger.about(0, 0), -1);
        Ledgers.due("storage(0)", Ledgers.answer(() -> ledger.storage(0)), Ledgers.ILLEGAL_ARGUMENT);
        Ledgers.due("find(0)", Ledgers.answer(() -> ledger.find(0)), Ledgers.ILLEGAL_ARGUMENT);
        Ledgers.due("call(0, 1, 1)", Ledgers.answer(() -> ledger.call(0, 1, 1)), Ledgers.ILLEGAL_ARGUMENT);
        Ledgers.due("wrong() after calls that did not look", ledger.wrong(), -1);
        twoObjectsShareNothing();
        Ledgers.end();
    }

    private static void twoObjectsShareNothing() {
        PactLedger one = Ledgers.deployed(Ledgers.echo(Ledgers.NAT, Ledgers.NAT, Ledgers.num(1)));
        PactLedger other = new PactLedger();
        one.put(7, 1);
        Ledgers.due("contracts of the other", other.count(0), 0);
        Ledgers.due("buffer of the other", other.count(1), 0);
        Ledgers.due("buffer of the one", one.count(1), 1);
    }
}
