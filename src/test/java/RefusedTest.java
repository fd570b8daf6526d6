import java.math.BigInteger;

/**
 * Terms: "In all calls that use the buffer it is empty afterwards, in any case", "deploy() leaves OUTPUT as it is",
 * "What throws changes nothing else but OUTPUT and what wrong() says, where that is told"; of each call that throws.
 */
public final class RefusedTest extends Ledgers {
    private static final int[] BIG = pairType(bigType(NAT, TEXT), NAT);
    private static final int[] BIG_VALUE = pair(row(entry(ONE, text("a")), entry(num(3), text("c"))), num(9));
    // What the prepared output and wrong() are, where a call leaves them.
    private static final int[] OUTPUT = num(15);
    private static final int WRONG = 5;

    public static void main(String[] args) {
        puts();
        deploys();
        fifthDeploy();
        callsThatDoNotLook();
        callsThatCannotRead();
        callsWithCost();
        callsWithSize();
        callsThatFailed();
        storages();
        findsThatDoNotLook();
        findsThatCannotRead();
        thoseThatGoWell();
        end();
    }

    /** A ledger with two contracts that were called once each, an output, and a place that is wrong. */
    private static PactLedger prepared() {
        PactLedger ledger = put(new PactLedger(), adding());
        due("deploy()", answer(ledger::deploy), "0");
        put(ledger, script(NAT, UNIT, BIG, updating(push(optionType(TEXT), some(text("x")))), BIG_VALUE));
        due("deploy()", answer(ledger::deploy), "1");
        due("call", call(ledger, 0, num(5), 120, 150), "12");
        due("call", call(ledger, 1, num(2), 120, 150), "14");
        due("find", find(ledger, 1, bytes(0, 129, 129, 129, 0)), ILLEGAL_ARGUMENT);
        due("wrong()", ledger.wrong(), WRONG - 1);
        due("find", find(ledger, 1, bytes(0, 129, 129, 129, 129, 0)), ILLEGAL_ARGUMENT);
        due("wrong()", ledger.wrong(), WRONG);
        due("storage(0)", ledger.storage(0), OUTPUT.length);
        return ledger;
    }

    /** Adds the parameter to the storage, which is the result too, and then divides 100 by it, or FAILs. */
    private static int[] adding() {
        int[] code = code(steps(31, 37, 32, 38, 60, 31), step(push(INT, num(100))), steps(63),
            step(word(41, row(push(TEXT, text("zero")), FAIL), row(DROP, DUP, PAIR))));
        return script(INT, INT, INT, code, num(10));
    }

    /** That a call threw, and that all but the output and wrong() is as it was prepared. */
    private static void as(String what, PactLedger ledger, String got, String how, int[] output, int wrong) {
        due(what, got, how);
        due(what + ": bytes in the buffer", ledger.count(1), 0);
        due(what + ": wrong()", ledger.wrong(), wrong);
        due(what + ": output", output(ledger), output);
        contractsAsPrepared(what, ledger);
    }

    private static void contractsAsPrepared(String what, PactLedger ledger) {
        int[][] about = {{14, 3, 1, 12, -1, 1}, {14, 4, 1, 14, 3, 12}};
        due(what + ": contracts", ledger.count(0), 2);
        for (int c = 0; c < 2; c++) {
            for (int i = 0; i < 6; i++) {
                due(what + ": about(" + c + ", " + i + ")", ledger.about(c, i), about[c][i]);
            }
        }
        due(what + ": about(2, 0)", ledger.about(2, 0), -1);
        due(what + ": storage(0)", storage(ledger, 0), num(15));
        due(what + ": storage(1)", storage(ledger, 1), pair(num(3), num(9)));
        int[][] found = {NO_VALUE, some(text("a")), some(text("x")), some(text("c")), NO_VALUE};
        for (int key = 0; key < found.length; key++) {
            due(what + ": find(1)", find(ledger, 1, num(key)), Integer.toString(found[key].length));
            due(what + ": what it found", output(ledger), found[key]);
        }
    }

    private static void puts() {
        int[] counts = {0, 9, -1, Integer.MIN_VALUE, Integer.MAX_VALUE};
        for (int n : counts) {
            PactLedger ledger = prepared();
            ledger.put(7, 3);
            due("put of " + n, answer(() -> ledger.put(7, n)), ILLEGAL_ARGUMENT);
            due("bytes in the buffer", ledger.count(1), 3);
            due("wrong()", ledger.wrong(), WRONG);
            due("output", output(ledger), OUTPUT);
        }
        PactLedger ledger = prepared();
        put(ledger, join(num(1), new int[238]));
        due("put in a full buffer", answer(() -> ledger.put(7, 1)), ILLEGAL_STATE);
        due("bytes in the buffer", ledger.count(1), 240);
        due("wrong()", ledger.wrong(), WRONG);
        due("output", output(ledger), OUTPUT);
        due("call", answer(() -> ledger.call(0, 1, 1)), ILLEGAL_ARGUMENT);
        due("wrong()", ledger.wrong(), 2);
    }

    private static String deploy(PactLedger ledger, int[] bytes) {
        put(ledger, bytes);
        return answer(ledger::deploy);
    }

    private static void deploys() {
        int[][] unread = {{}, {9}, {4}, join(natScript(), bytes(0)), bytes(4, 3, 4, 3, 4, 3, 2, 0)};
        int[] places = {0, 0, 1, 10, 8};
        for (int i = 0; i < unread.length; i++) {
            PactLedger ledger = prepared();
            as("deploy() of no script", ledger, deploy(ledger, unread[i]), ILLEGAL_ARGUMENT, OUTPUT, places[i]);
        }
        int[][] ill = {natScript(DROP), natScript(DUP, word(60)), echo(NAT, NAT, num(-1)), echo(word(11), NAT, ONE)};
        int[] illPlaces = {6, 10, 8, 0};
        for (int i = 0; i < ill.length; i++) {
            PactLedger ledger = prepared();
            as("deploy() of an ILL one", ledger, deploy(ledger, ill[i]), UNSUPPORTED, OUTPUT, illPlaces[i]);
            due("a right one", deploy(ledger, natScript()), "2");
        }
    }

    // "IllegalStateException: there are 4 (asked first)"

    private static void fifthDeploy() {
        int[][] buffers = {natScript(), natScript(DROP), {}, {9}, join(natScript(), bytes(0))};
        for (int[] buffer : buffers) {
            PactLedger ledger = new PactLedger();
            for (int c = 0; c < 4; c++) {
                due("deploy()", deploy(ledger, natScript()), Integer.toString(c));
            }
            due("find", find(ledger, 0, ONE), ILLEGAL_ARGUMENT);
            due("call", call(ledger, 0, bytes(0, 128, 0), 1, 1), ILLEGAL_ARGUMENT);
            ledger.storage(3);
            due("a fifth", deploy(ledger, buffer), ILLEGAL_STATE);
            due("bytes in the buffer", ledger.count(1), 0);
            due("wrong(), which it did not look for", ledger.wrong(), 2);
            due("output", output(ledger), ONE);
            due("contracts", ledger.count(0), 4);
            due("about(4, 0)", ledger.about(4, 0), -1);
            due("about(3, 5)", ledger.about(3, 5), 1);
        }
    }

    private static void callsThatDoNotLook() {
        int[][] wrong = {
            {-1, 1, 1}, {2, 1, 1}, {0, 0, 1}, {0, 121, 1}, {0, 1, 0}, {0, 1, 151}, {2, 0, 0}, {2, 121, 151}
        };
        int[][] buffers = {num(5), {9}, {}};
        for (int[] w : wrong) {
            for (int[] buffer : buffers) {
                PactLedger ledger = prepared();
                as("call" + told(w), ledger, call(ledger, w[0], buffer, w[1], w[2]), ILLEGAL_ARGUMENT, NOTHING, WRONG);
            }
        }
    }

    private static void callsThatCannotRead() {
        int[][] buffers = {{}, {9}, {0}, {0, 64}, {0, 5, 0}, {0, 5, 9}, {1, 0}, {4, 20}, {2, 0}};
        int[] places = {0, 0, 1, 1, 2, 2, 0, 0, 0};
        for (int i = 0; i < buffers.length; i++) {
            PactLedger ledger = prepared();
            as("call with " + told(buffers[i]), ledger, call(ledger, 0, buffers[i], 120, 150), ILLEGAL_ARGUMENT, NOTHING,
                places[i]);
        }
        PactLedger ledger = prepared();
        as("call with -1 for a NAT", ledger, call(ledger, 1, num(-1), 120, 150), ILLEGAL_ARGUMENT, NOTHING, 0);
    }

    private static void callsWithCost() {
        for (int bound = 1; bound < 12; bound++) {
            PactLedger ledger = prepared();
            as("call within " + bound, ledger, call(ledger, 0, num(1), 120, bound), ILLEGAL_STATE, NOTHING, -1);
        }
        for (int bound = 1; bound < 14; bound++) {
            PactLedger ledger = prepared();
            as("call within " + bound, ledger, call(ledger, 1, num(0), 120, bound), ILLEGAL_STATE, NOTHING, -1);
        }
    }

    private static void callsWithSize() {
        PactLedger ledger = prepared();
        as("ADD", ledger, call(ledger, 0, num(1), 4, 150), ARITHMETIC, NOTHING, -1);
        PactLedger most = prepared();
        BigInteger greatest = power(120).subtract(BigInteger.ONE);
        as("ADD of the greatest", most, call(most, 0, num(greatest), 120, 150), ARITHMETIC, NOTHING, -1);
        PactLedger divided = prepared();
        as("EDIV", divided, call(divided, 0, num(-14), 6, 150), ARITHMETIC, NOTHING, -1);
    }

    private static void callsThatFailed() {
        PactLedger ledger = prepared();
        as("FAIL", ledger, call(ledger, 0, num(-15), 120, 150), UNSUPPORTED, text("zero"), -1);
        PactLedger just = prepared();
        as("FAIL within its cost", just, call(just, 0, num(-15), 4, 11), UNSUPPORTED, text("zero"), -1);
    }

    private static void storages() {
        int[] none = {-1, 2, 3, 4, Integer.MIN_VALUE, Integer.MAX_VALUE};
        for (int c : none) {
            PactLedger ledger = prepared();
            ledger.put(9, 1);
            due("storage(" + c + ")", answer(() -> ledger.storage(c)), ILLEGAL_ARGUMENT);
            due("bytes in the buffer", ledger.count(1), 1);
            due("wrong()", ledger.wrong(), WRONG);
            due("output", output(ledger), OUTPUT);
            due("call that uses the buffer", answer(() -> ledger.call(0, 1, 1)), ILLEGAL_ARGUMENT);
            contractsAsPrepared("storage(" + c + ")", ledger);
        }
    }

    private static void findsThatDoNotLook() {
        int[] none = {-1, 0, 2, 3, 4, Integer.MIN_VALUE, Integer.MAX_VALUE};
        int[][] buffers = {ONE, {9}, {}};
        for (int c : none) {
            for (int[] buffer : buffers) {
                PactLedger ledger = prepared();
                as("find(" + c + ")", ledger, find(ledger, c, buffer), ILLEGAL_ARGUMENT, OUTPUT, WRONG);
            }
        }
    }

    private static void findsThatCannotRead() {
        int[][] buffers = {{}, {9}, {0}, {0, 64}, {0, 5, 0}, {0, 65}, {1, 0}, {2, 0}};
        int[] places = {0, 0, 1, 1, 2, 0, 0, 0};
        for (int i = 0; i < buffers.length; i++) {
            PactLedger ledger = prepared();
            as("find of " + told(buffers[i]), ledger, find(ledger, 1, buffers[i]), ILLEGAL_ARGUMENT, OUTPUT, places[i]);
        }
    }

    /** The buffer is empty, and wrong() is NONE, where nothing throws too. */
    private static void thoseThatGoWell() {
        PactLedger ledger = prepared();
        due("find", find(ledger, 1, ONE), "5");
        due("wrong()", ledger.wrong(), -1);
        due("bytes in the buffer", ledger.count(1), 0);
        PactLedger called = prepared();
        due("call", call(called, 0, ONE, 120, 150), "12");
        due("wrong()", called.wrong(), -1);
        due("bytes in the buffer", called.count(1), 0);
        PactLedger more = prepared();
        due("deploy()", deploy(more, natScript()), "2");
        due("wrong()", more.wrong(), -1);
        due("bytes in the buffer", more.count(1), 0);
        due("output", output(more), OUTPUT);
    }
}
