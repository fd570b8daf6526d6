import java.util.Arrays;

/** Promise 4: wrong, for bytes that are no nodes; where scripts are ILL is in DeployTest. */
public final class WrongTest {
    private static final int[] NO_NUMBER_AT_4 = Ledgers.bytes(4, 0, 4, 0);

    public static void main(String[] args) {
        firstBytes();
        numbers();
        textsAndRows();
        endsTooSoon();
        tooMuch();
        tooDeep();
        tooMany();
        latestThatLooked();
        Ledgers.end();
    }

    /** That these bytes, behind two nodes, are refused so far behind their first one. */
    private static void unread(int[] bytes, int place) {
        int[] buffer = Ledgers.join(NO_NUMBER_AT_4, bytes);
        Ledgers.refused(Ledgers.told(bytes), buffer, Ledgers.ILLEGAL_ARGUMENT, 4 + place);
    }

    private static void firstBytes() {
        unread(Ledgers.bytes(3, 0, 0), 0);
        unread(Ledgers.bytes(8, 0, 0), 0);
        unread(Ledgers.bytes(255, 0, 0), 0);
        unread(Ledgers.bytes(128, 0, 0), 0);
        unread(Ledgers.bytes(7, 9, 4, 0, 4, 0, 3), 6);
    }

    private static void numbers() {
        unread(Ledgers.bytes(0, 64, 0), 1);
        unread(Ledgers.bytes(0, 129, 0, 9), 2);
        unread(Ledgers.bytes(0, 129, 128, 0, 9), 3);
        unread(Ledgers.bytes(0, 192, 0, 9), 2);
        int[] sixteen = new int[16];
        Arrays.fill(sixteen, 128);
        // The last byte but one has the bits 111 to 117, the last one 118 and 119.
        unread(Ledgers.join(Ledgers.bytes(0, 128), sixteen, Ledgers.bytes(4)), 18);
        unread(Ledgers.join(Ledgers.bytes(0, 128), sixteen, Ledgers.bytes(128 + 64, 1)), 18);
        unread(Ledgers.join(Ledgers.bytes(0, 128), sixteen, Ledgers.bytes(131, 1)), 19);
        unread(Ledgers.join(Ledgers.bytes(0, 128), sixteen, Ledgers.bytes(128, 0)), 19);
        unread(Ledgers.join(Ledgers.bytes(0, 128), sixteen, Ledgers.bytes(128, 128, 128, 1)), 21);
        unread(Ledgers.join(Ledgers.bytes(0, 128), sixteen, Ledgers.bytes(128, 128)), 20);
        int[][] right = {
            Ledgers.num(0), Ledgers.num(63), Ledgers.num(64), Ledgers.num(-1), Ledgers.num(-64), Ledgers.num(8191),
            Ledgers.num(8192), Ledgers.bytes(0, 192, 1), Ledgers.num(Ledgers.power(60)),
            Ledgers.num(Ledgers.power(120).subtract(java.math.BigInteger.ONE)),
            Ledgers.num(Ledgers.power(119).negate())
        };
        PactLedger ledger = Ledgers.deployed(Ledgers.pure(Ledgers.INT, Ledgers.INT));
        for (int[] number : right) {
            Ledgers.due("call with " + Ledgers.told(number), Ledgers.call(ledger, 0, number, 1, 150), "4");
            Ledgers.due("wrong() after " + Ledgers.told(number), ledger.wrong(), -1);
            Ledgers.due("output", Ledgers.output(ledger), number);
        }
    }

    private static void textsAndRows() {
        unread(Ledgers.bytes(1, 9, 65, 65, 65, 65, 65, 65, 65, 65, 65), 1);
        unread(Ledgers.bytes(1, 2, 32, 31), 3);
        unread(Ledgers.bytes(1, 2, 126, 127), 3);
        unread(Ledgers.bytes(1, 1, 255), 2);
        unread(Ledgers.bytes(2, 41, 4, 0), 1);
        unread(Ledgers.bytes(2, 2, 4, 0, 9), 4);
        PactLedger ledger = Ledgers.deployed(Ledgers.pure(Ledgers.TEXT, Ledgers.TEXT));
        String[] right = {"", " ", "~", "~~~~~~~~", "a b"};
        for (String text : right) {
            Ledgers.due("call with " + text, Ledgers.call(ledger, 0, Ledgers.text(text), 1, 150), "4");
            Ledgers.due("output", Ledgers.output(ledger), Ledgers.text(text));
        }
    }

    private static void endsTooSoon() {
        int[] script = Ledgers.echo(Ledgers.NAT, Ledgers.pairType(Ledgers.TEXT, Ledgers.INT),
            Ledgers.pair(Ledgers.text("abc"), Ledgers.num(100000)));
        for (int n = 0; n < script.length; n++) {
            Ledgers.refused(n + " bytes", Arrays.copyOf(script, n), Ledgers.ILLEGAL_ARGUMENT, n);
        }
        Ledgers.kept("all bytes", script);
        unread(Ledgers.bytes(0), 1);
        unread(Ledgers.bytes(0, 128), 2);
        unread(Ledgers.bytes(1), 1);
        unread(Ledgers.bytes(2), 1);
        unread(Ledgers.bytes(6), 1);
        unread(Ledgers.bytes(6, 5, 4, 0), 4);
    }

    private static void tooMuch() {
        int[] script = Ledgers.echo(Ledgers.NAT, Ledgers.NAT, Ledgers.num(1));
        for (int octet = 0; octet < 256; octet += 3) {
            Ledgers.refused("a sixth " + octet, Ledgers.join(script, Ledgers.bytes(octet)),
                Ledgers.ILLEGAL_ARGUMENT, script.length);
        }
        // What is too much counts ahead of what is ILL.
        int[] ill = Ledgers.script(Ledgers.word(11), Ledgers.NAT, Ledgers.NAT, Ledgers.row(), Ledgers.num(1));
        Ledgers.refused("ILL and too long", Ledgers.join(ill, Ledgers.NAT), Ledgers.ILLEGAL_ARGUMENT, ill.length);
        PactLedger ledger = Ledgers.deployed(script);
        Ledgers.due("call with two values", Ledgers.call(ledger, 0, Ledgers.bytes(0, 1, 0, 1), 1, 150),
            Ledgers.ILLEGAL_ARGUMENT);
        Ledgers.due("wrong()", ledger.wrong(), 2);
    }

    /** A number in so many words less one. */
    private static int[] nested(int depth) {
        int[] node = Ledgers.num(1);
        for (int i = 1; i < depth; i++) {
            node = Ledgers.word(99, node);
        }
        return node;
    }

    private static void tooDeep() {
        unread(nested(10), 18);
        unread(Ledgers.join(nested(9), Ledgers.bytes(3)), 18);
        int[] script = Ledgers.echo(Ledgers.NAT, Ledgers.NAT, nested(9));
        Ledgers.ill("a node 9 deep", script, script.length - 18);
        int[] rows = Ledgers.row();
        for (int i = 1; i < 10; i++) {
            rows = Ledgers.row(rows);
        }
        unread(rows, 18);
    }

    /** A script with 86 nodes and as many more as are told. */
    private static int[] longScript(int more) {
        int[] value = Ledgers.row(Ledgers.many(40, Ledgers.FALSE), Ledgers.many(36, Ledgers.FALSE),
            Ledgers.many(more, Ledgers.FALSE));
        return Ledgers.echo(Ledgers.BOOL, Ledgers.listType(Ledgers.listType(Ledgers.BOOL)), value);
    }

    private static void tooMany() {
        // BOOL, BOOL, three words of a type, the code's row, four rows of the value: 10; and 76 in two of these.
        Ledgers.kept("100 nodes", longScript(14));
        int[] script = longScript(15);
        Ledgers.refused("101 nodes", script, Ledgers.ILLEGAL_ARGUMENT, script.length - 2);
        int[] bad = script.clone();
        bad[script.length - 2] = 3;
        Ledgers.refused("101 nodes, the last none", bad, Ledgers.ILLEGAL_ARGUMENT, script.length - 2);
        int[] cut = Arrays.copyOf(script, script.length - 2);
        Ledgers.refused("100 nodes, one must come", cut, Ledgers.ILLEGAL_ARGUMENT, script.length - 2);
    }

    private static void latestThatLooked() {
        PactLedger ledger = Ledgers.deployed(Ledgers.echo(Ledgers.NAT, Ledgers.NAT, Ledgers.num(1)));
        Ledgers.call(ledger, 0, Ledgers.bytes(0, 65), 1, 150);
        Ledgers.due("wrong() of a number below 0 for a NAT", ledger.wrong(), 0);
        Ledgers.call(ledger, 0, Ledgers.bytes(0, 129, 0), 0, 150);
        Ledgers.call(ledger, 7, Ledgers.bytes(0, 129, 0), 1, 150);
        Ledgers.put(ledger, Ledgers.bytes(1));
        Ledgers.answer(() -> ledger.find(0));
        ledger.storage(0);
        Ledgers.due("wrong() after calls that did not look", ledger.wrong(), 0);
        Ledgers.due("call of an empty buffer", Ledgers.answer(() -> ledger.call(0, 1, 1)), Ledgers.ILLEGAL_ARGUMENT);
        Ledgers.due("wrong() of an empty buffer", ledger.wrong(), 0);
        Ledgers.call(ledger, 0, Ledgers.bytes(1, 1), 1, 150);
        Ledgers.due("wrong() of a text that ends", ledger.wrong(), 2);
        for (int i = 1; i < 4; i++) {
            Ledgers.put(ledger, Ledgers.echo(Ledgers.NAT, Ledgers.NAT, Ledgers.num(1))).deploy();
        }
        Ledgers.due("wrong() of a right one", ledger.wrong(), -1);
        Ledgers.call(ledger, 0, Ledgers.bytes(1, 1), 1, 150);
        Ledgers.put(ledger, Ledgers.bytes(9));
        Ledgers.due("a fifth", Ledgers.answer(ledger::deploy), Ledgers.ILLEGAL_STATE);
        Ledgers.due("wrong() after a deploy that did not look", ledger.wrong(), 2);
    }
}
