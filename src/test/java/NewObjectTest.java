/** Promise 1: a new object. */
public final class NewObjectTest extends Ledgers {
    public static void main(String[] args) {
        due("NONE", PactLedger.NONE, -1);
        noContracts();
        emptyBuffer();
        emptyOutput();
        nothingWasWrong();
        refusesWhatNeedsAContract();
        twoObjectsShareNothing();
        end();
    }

    // "No contracts"

    private static void noContracts() {
        PactLedger ledger = new PactLedger();
        due("contracts", ledger.count(0), 0);
        for (int c = -1; c <= 4; c++) {
            for (int what = -1; what <= 6; what++) {
                due("about(" + c + ", " + what + ")", ledger.about(c, what), -1);
            }
        }
        put(ledger, natScript());
        due("the first contract", answer(ledger::deploy), "0");
    }

    // "an empty buffer"

    private static void emptyBuffer() {
        PactLedger ledger = new PactLedger();
        due("bytes in the buffer", ledger.count(1), 0);
        due("put of 1", ledger.put(4, 1), 1);
        PactLedger unread = new PactLedger();
        due("deploy() of an empty buffer", answer(unread::deploy), ILLEGAL_ARGUMENT);
        due("wrong()", unread.wrong(), 0);
        due("contracts", unread.count(0), 0);
    }

    // "an empty output"

    private static void emptyOutput() {
        PactLedger ledger = new PactLedger();
        due("bytes of the output", ledger.count(2), 0);
        for (int i = -1; i <= 1; i++) {
            due("octet(" + i + ")", ledger.octet(i), -1);
        }
        put(ledger, natScript());
        due("deploy()", answer(ledger::deploy), "0");
        due("bytes of the output behind a deploy()", ledger.count(2), 0);
    }

    // Promise 4: "NONE when it was right, or there was none"

    private static void nothingWasWrong() {
        PactLedger ledger = new PactLedger();
        due("wrong()", ledger.wrong(), -1);
        ledger.put(255, 1);
        due("wrong() of a buffer that nobody looked at", ledger.wrong(), -1);
    }

    private static void refusesWhatNeedsAContract() {
        PactLedger ledger = new PactLedger();
        for (int c = -1; c <= 4; c++) {
            int asked = c;
            ledger.put(255, 1);
            due("storage(" + c + ")", answer(() -> ledger.storage(asked)), ILLEGAL_ARGUMENT);
            due("bytes in the buffer behind storage()", ledger.count(1), 1);
            due("find(" + c + ")", answer(() -> ledger.find(asked)), ILLEGAL_ARGUMENT);
            due("bytes in the buffer behind find()", ledger.count(1), 0);
            ledger.put(255, 1);
            due("call(" + c + ", 1, 1)", answer(() -> ledger.call(asked, 1, 1)), ILLEGAL_ARGUMENT);
            due("bytes in the buffer behind call()", ledger.count(1), 0);
            due("wrong() behind calls that did not look", ledger.wrong(), -1);
            due("bytes of the output", ledger.count(2), 0);
        }
    }

    private static void twoObjectsShareNothing() {
        PactLedger one = deployed(echo(NAT, NAT, ONE));
        PactLedger other = new PactLedger();
        one.put(7, 1);
        one.storage(0);
        due("contracts of the other", other.count(0), 0);
        due("buffer of the other", other.count(1), 0);
        due("output of the other", other.count(2), 0);
        due("buffer of the one", one.count(1), 1);
        due("a call of the one", answer(() -> one.call(0, 1, 1)), ILLEGAL_ARGUMENT);
        due("wrong() of the one", one.wrong(), 1);
        due("wrong() of the other", other.wrong(), -1);
    }
}
