/** Promise 7: find. */
public final class FindTest extends Ledgers {
    private static final int[] N = Ledgers.NAT;
    private static final int[] T = Ledgers.TEXT;

    public static void main(String[] args) {
        found();
        pairsAsKeys();
        refused();
        afterUpdates();
        Ledgers.end();
    }

    private static void found(PactLedger ledger, int[] key, int[] want) {
        Ledgers.due("find of " + Ledgers.told(key), find(ledger, 0, key), Integer.toString(want.length));
        Ledgers.due("output for " + Ledgers.told(key), Ledgers.output(ledger), want);
        Ledgers.due("wrong()", ledger.wrong(), -1);
        Ledgers.due("buffer", ledger.count(1), 0);
    }

    private static PactLedger withBig(int[] keys, int[] values, int[]... entries) {
        int[] type = Ledgers.pairType(Ledgers.bigType(keys, values), N);
        return Ledgers.deployed(Ledgers.echo(N, type, Ledgers.pair(Ledgers.row(entries), Ledgers.num(5))));
    }

    private static void found() {
        PactLedger ledger = withBig(Ledgers.INT, Ledgers.listType(T), Ledgers.entry(Ledgers.num(-3), Ledgers.row()),
            Ledgers.entry(Ledgers.num(0), Ledgers.row(Ledgers.text("zero"))),
            Ledgers.entry(Ledgers.num(100), Ledgers.row(Ledgers.text("a"), Ledgers.text(""))));
        found(ledger, Ledgers.num(-3), Ledgers.some(Ledgers.row()));
        found(ledger, Ledgers.num(0), Ledgers.some(Ledgers.row(Ledgers.text("zero"))));
        found(ledger, Ledgers.num(100), Ledgers.some(Ledgers.row(Ledgers.text("a"), Ledgers.text(""))));
        int[] absent = {-4, -2, 3, 99, 101};
        for (int key : absent) {
            found(ledger, Ledgers.num(key), Ledgers.NO_VALUE);
        }
        found(withBig(T, N), Ledgers.text("x"), Ledgers.NO_VALUE);
        PactLedger options = withBig(Ledgers.BOOL, Ledgers.optionType(N),
            Ledgers.entry(Ledgers.FALSE, Ledgers.NO_VALUE), Ledgers.entry(Ledgers.TRUE, Ledgers.some(Ledgers.num(1))));
        found(options, Ledgers.FALSE, Ledgers.some(Ledgers.NO_VALUE));
        found(options, Ledgers.TRUE, Ledgers.some(Ledgers.some(Ledgers.num(1))));
    }

    private static void pairsAsKeys() {
        int[] key = Ledgers.pair(Ledgers.text("b"), Ledgers.num(2));
        PactLedger ledger = withBig(Ledgers.pairType(T, N), N,
            Ledgers.entry(Ledgers.pair(Ledgers.text("a"), Ledgers.num(9)), Ledgers.num(1)),
            Ledgers.entry(key, Ledgers.num(2)),
            Ledgers.entry(Ledgers.pair(Ledgers.text("b"), Ledgers.num(3)), Ledgers.num(3)));
        found(ledger, key, Ledgers.some(Ledgers.num(2)));
        found(ledger, Ledgers.pair(Ledgers.text("b"), Ledgers.num(1)), Ledgers.NO_VALUE);
        found(ledger, Ledgers.pair(Ledgers.text("b"), Ledgers.num(3)), Ledgers.some(Ledgers.num(3)));
        found(ledger, Ledgers.pair(Ledgers.text("a"), Ledgers.num(9)), Ledgers.some(Ledgers.num(1)));
    }

    private static void refused() {
        PactLedger ledger = withBig(N, N, Ledgers.entry(Ledgers.num(1), Ledgers.num(2)));
        Ledgers.put(ledger, Ledgers.echo(N, Ledgers.pairType(Ledgers.mapType(N, N), N),
            Ledgers.pair(Ledgers.row(), Ledgers.num(1)))).deploy();
        found(ledger, Ledgers.num(1), Ledgers.some(Ledgers.num(2)));
        int[] want = Ledgers.some(Ledgers.num(2));
        int[][] wrongKeys = {Ledgers.num(-1), T, Ledgers.text("1"), {}, {0}, {0, 1, 0}, {0, 1, 0, 1}, {0, 64}};
        int[] places = {0, 0, 0, 0, 1, 2, 2, 1};
        for (int i = 0; i < wrongKeys.length; i++) {
            Ledgers.due("find of " + Ledgers.told(wrongKeys[i]), find(ledger, 0, wrongKeys[i]), Ledgers.ILLEGAL_ARGUMENT);
            Ledgers.due("wrong() of " + Ledgers.told(wrongKeys[i]), ledger.wrong(), places[i]);
            Ledgers.due("buffer", ledger.count(1), 0);
            Ledgers.due("output", Ledgers.output(ledger), want);
        }
        int[] none = {-1, 1, 2, 4, Integer.MAX_VALUE, Integer.MIN_VALUE};
        for (int c : none) {
            Ledgers.due("find(" + c + ")", find(ledger, c, Ledgers.bytes(0, 129)), Ledgers.ILLEGAL_ARGUMENT);
            Ledgers.due("wrong(), which did not look", ledger.wrong(), 1);
            Ledgers.due("buffer", ledger.count(1), 0);
            Ledgers.due("output", Ledgers.output(ledger), want);
        }
    }

    private static void afterUpdates() {
        int[] big = Ledgers.pairType(Ledgers.bigType(N, T), N);
        int[] value = Ledgers.pair(Ledgers.row(), Ledgers.num(5));
        int[] put = Ledgers.push(Ledgers.optionType(T), Ledgers.some(Ledgers.text("x")));
        PactLedger ledger = Ledgers.deployed(Ledgers.script(N, Ledgers.UNIT, big, Ledgers.updating(put), value));
        int[] keys = {5, 1, 9, 3, 5};
        for (int key : keys) {
            found(ledger, Ledgers.num(2), Ledgers.NO_VALUE);
            Ledgers.due("call", Ledgers.call(ledger, 0, Ledgers.num(key), 120, 150), "14");
            found(ledger, Ledgers.num(key), Ledgers.some(Ledgers.text("x")));
        }
        Ledgers.due("keys", ledger.about(0, 4), 4);
        Ledgers.due("storage", Ledgers.storage(ledger, 0), Ledgers.pair(Ledgers.num(4), Ledgers.num(5)));
        int[] full = Ledgers.pair(Ledgers.row(Ledgers.entry(Ledgers.num(1), Ledgers.text("a")),
            Ledgers.entry(Ledgers.num(2), Ledgers.text("b")), Ledgers.entry(Ledgers.num(3), Ledgers.text("c"))),
            Ledgers.num(5));
        PactLedger less = Ledgers.deployed(
            Ledgers.script(N, Ledgers.UNIT, big, Ledgers.updating(Ledgers.word(40, T)), full));
        int[] gone = {2, 7, 1, 3};
        for (int key : gone) {
            Ledgers.due("call", Ledgers.call(less, 0, Ledgers.num(key), 120, 150), "14");
            found(less, Ledgers.num(key), Ledgers.NO_VALUE);
        }
        Ledgers.due("keys", less.about(0, 4), 0);
    }
}
