/** Promise 8: octet. */
public final class OctetTest {
    public static void main(String[] args) {
        int[] value = Ledgers.num(Ledgers.power(120).subtract(java.math.BigInteger.ONE).negate());
        PactLedger ledger = Ledgers.deployed(Ledgers.echo(Ledgers.INT, Ledgers.INT, value));
        Ledgers.due("octet(0) of no output", ledger.octet(0), -1);
        Ledgers.due("storage(0)", ledger.storage(0), 19);
        for (int i = 0; i < value.length; i++) {
            Ledgers.due("octet(" + i + ")", ledger.octet(i), value[i]);
        }
        int[] outside = {-1, 19, 20, 5000, Integer.MAX_VALUE, Integer.MIN_VALUE};
        for (int i : outside) {
            Ledgers.due("octet(" + i + ")", ledger.octet(i), -1);
        }
        shorterOutputHidesOldBytes(ledger);
        Ledgers.end();
    }

    private static void shorterOutputHidesOldBytes(PactLedger ledger) {
        Ledgers.due("call", Ledgers.call(ledger, 0, Ledgers.num(5), 120, 1), "0");
        Ledgers.due("octet(1)", ledger.octet(1), 5);
        Ledgers.due("octet(2)", ledger.octet(2), -1);
        Ledgers.due("call that throws", Ledgers.call(ledger, 0, Ledgers.num(5), 0, 1), Ledgers.ILLEGAL_ARGUMENT);
        Ledgers.due("octet(0)", ledger.octet(0), -1);
    }
}
