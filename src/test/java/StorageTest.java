/** Promise 6: storage. */
public final class StorageTest {
    private static final int[] N = Ledgers.NAT;

    public static void main(String[] args) {
        plainValues();
        bigAsNumber();
        noContract();
        changesWithCalls();
        Ledgers.end();
    }

    private static void shown(int[] type, int[] value, int[] want) {
        PactLedger ledger = Ledgers.deployed(Ledgers.echo(N, type, value));
        Ledgers.due("storage(0)", Ledgers.answer(() -> ledger.storage(0)), Integer.toString(want.length));
        Ledgers.due("output of " + Ledgers.told(value), Ledgers.output(ledger), want);
    }

    private static void plainValues() {
        int[] map = Ledgers.row(Ledgers.entry(Ledgers.text("a"), Ledgers.left(Ledgers.num(-7))),
            Ledgers.entry(Ledgers.text("b c"), Ledgers.right(Ledgers.TRUE)));
        int[] mapType = Ledgers.mapType(Ledgers.TEXT, Ledgers.orType(Ledgers.INT, Ledgers.BOOL));
        shown(mapType, map, map);
        shown(Ledgers.pairType(mapType, N), Ledgers.pair(map, Ledgers.num(8192)), Ledgers.pair(map, Ledgers.num(8192)));
        int[] lists = Ledgers.row(Ledgers.row(), Ledgers.row(Ledgers.NO_VALUE, Ledgers.some(Ledgers.THE_UNIT)));
        shown(Ledgers.listType(Ledgers.listType(Ledgers.optionType(Ledgers.UNIT))), lists, lists);
        for (int bits = 0; bits < 120; bits++) {
            int[] number = Ledgers.num(Ledgers.power(bits));
            shown(N, number, number);
            int[] below = Ledgers.num(Ledgers.power(bits + 1).subtract(java.math.BigInteger.ONE).negate());
            shown(Ledgers.INT, below, below);
        }
    }

    private static void bigAsNumber() {
        int[] type = Ledgers.pairType(Ledgers.bigType(N, N), Ledgers.TEXT);
        int[][] entries = new int[0][];
        for (int n = 0; n < 3; n++) {
            shown(type, Ledgers.pair(Ledgers.row(entries), Ledgers.text("x")),
                Ledgers.pair(Ledgers.num(n), Ledgers.text("x")));
            entries = java.util.Arrays.copyOf(entries, n + 1);
            entries[n] = Ledgers.entry(Ledgers.num(n), Ledgers.num(n));
        }
    }

    private static void noContract() {
        PactLedger ledger = Ledgers.deployed(Ledgers.echo(N, N, Ledgers.num(77)));
        ledger.storage(0);
        ledger.put(5, 3);
        int[] none = {-1, 1, 2, 4, Integer.MAX_VALUE, Integer.MIN_VALUE};
        for (int c : none) {
            Ledgers.due("storage(" + c + ")", Ledgers.answer(() -> ledger.storage(c)), Ledgers.ILLEGAL_ARGUMENT);
            Ledgers.due("output", Ledgers.output(ledger), Ledgers.num(77));
        }
        Ledgers.due("buffer", ledger.count(1), 3);
    }

    private static void changesWithCalls() {
        // The parameter becomes the storage, the storage the result; a 9 FAILs.
        int[] code = Ledgers.code(Ledgers.steps(31, 37, 31), Ledgers.step(Ledgers.push(N, Ledgers.num(9))),
            Ledgers.steps(68, 69), Ledgers.step(Ledgers.word(58, Ledgers.row(Ledgers.word(76)), Ledgers.row())),
            Ledgers.steps(32, 38, 36));
        PactLedger ledger = Ledgers.deployed(Ledgers.script(N, N, N, code, Ledgers.num(1)));
        Ledgers.put(ledger, Ledgers.echo(N, N, Ledgers.num(50))).deploy();
        Ledgers.due("call", Ledgers.call(ledger, 0, Ledgers.num(2), 120, 150), "10");
        Ledgers.due("result", Ledgers.output(ledger), Ledgers.num(1));
        Ledgers.due("storage", Ledgers.storage(ledger, 0), Ledgers.num(2));
        Ledgers.due("call that FAILED", Ledgers.call(ledger, 0, Ledgers.num(9), 120, 150), Ledgers.UNSUPPORTED);
        Ledgers.due("storage", Ledgers.storage(ledger, 0), Ledgers.num(2));
        Ledgers.due("call with COST", Ledgers.call(ledger, 0, Ledgers.num(3), 120, 9), Ledgers.ILLEGAL_STATE);
        Ledgers.due("storage", Ledgers.storage(ledger, 0), Ledgers.num(2));
        Ledgers.due("storage of the other", Ledgers.storage(ledger, 1), Ledgers.num(50));
    }
}
