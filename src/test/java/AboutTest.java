/** Promise 9: about. */
public final class AboutTest extends Ledgers {
    private static final int[] N = Ledgers.NAT;

    public static void main(String[] args) {
        others();
        instructions();
        deepest();
        callsAndCosts();
        keysAndNodes();
        Ledgers.end();
    }

    private static void about(String what, int[] script, int asked, int want) {
        Ledgers.due(what + ", about(0, " + asked + ")", Ledgers.deployed(script).about(0, asked), want);
    }

    private static void others() {
        PactLedger ledger = Ledgers.deployed(natScript());
        int[] whats = {-1, 6, 7, Integer.MAX_VALUE, Integer.MIN_VALUE};
        for (int what : whats) {
            Ledgers.due("about(0, " + what + ")", ledger.about(0, what), -1);
        }
        int[] contracts = {-1, 1, 3, 4, Integer.MAX_VALUE, Integer.MIN_VALUE};
        for (int c : contracts) {
            for (int what = -1; what < 7; what++) {
                Ledgers.due("about(" + c + ", " + what + ")", ledger.about(c, what), -1);
            }
        }
    }

    private static void instructions() {
        about("no code", natScript(), 0, 0);
        about("two", natScript(DUP, DROP), 0, 2);
        int[] inner = Ledgers.row(Ledgers.word(33, Ledgers.row(DUP, DROP)), DUP, DROP);
        about("IF", natScript(Ledgers.push(Ledgers.BOOL, Ledgers.TRUE),
            Ledgers.word(58, Ledgers.row(DUP, DROP), Ledgers.row(DUP, DUP, Ledgers.word(76)))), 0, 7);
        about("code in code", natScript(DUP, DUP, Ledgers.word(33, inner), DROP, DROP), 0, 10);
        // A row that is a value is no code.
        int[] codes = Ledgers.push(Ledgers.listType(Ledgers.UNIT), Ledgers.row(Ledgers.THE_UNIT, Ledgers.THE_UNIT));
        about("a list pushed", natScript(codes, DROP), 0, 2);
    }

    private static void deepest() {
        about("no code", natScript(), 1, 1);
        about("DUP", natScript(DUP, DUP, DROP, DROP, DUP, DROP), 1, 3);
        about("with what DIP holds", natScript(DUP, Ledgers.word(33, Ledgers.row(DUP, DROP)), DROP), 1, 3);
        about("DIP in DIP", natScript(DUP, DUP,
            Ledgers.word(33, Ledgers.row(Ledgers.word(33, Ledgers.row(DUP, DUP, DROP, DROP)))), DROP, DROP), 1, 5);
        int[] nil = Ledgers.word(45, N);
        about("IFCONS", natScript(nil, Ledgers.word(47, Ledgers.row(DROP, DROP), Ledgers.row())), 1, 3);
        about("IF, the second part", natScript(Ledgers.push(Ledgers.BOOL, Ledgers.TRUE),
            Ledgers.word(58, Ledgers.row(), Ledgers.row(DUP, DUP, DROP, DROP))), 1, 3);
        about("a part that FAILED", natScript(Ledgers.push(Ledgers.BOOL, Ledgers.TRUE),
            Ledgers.word(58, Ledgers.row(), Ledgers.row(DUP, DUP, DUP, Ledgers.word(76)))), 1, 4);
        about("12", natScript(DUP, DUP, DUP, DUP, DUP, DUP, DUP, DUP, DUP, DUP, DUP, Ledgers.word(76)), 1, 12);
        about("ITER", natScript(nil, Ledgers.word(49, Ledgers.row(DROP))), 1, 2);
        about("MAP", natScript(nil, Ledgers.word(50, Ledgers.row(DUP, Ledgers.word(60))), DROP), 1, 3);
    }

    private static void callsAndCosts() {
        // FAILs with the parameter unless it is 0.
        int[] test = Ledgers.code(Ledgers.steps(31, 37, 31, 67, 69),
            Ledgers.step(Ledgers.word(58, Ledgers.row(DROP), Ledgers.row(Ledgers.word(76)))));
        PactLedger ledger = Ledgers.deployed(Ledgers.script(N, N, N, test, ONE));
        Ledgers.put(ledger, natScript(DUP, DROP)).deploy();
        Ledgers.due("calls", ledger.about(0, 2), 0);
        Ledgers.due("costs", ledger.about(0, 3), 0);
        Ledgers.due("call", Ledgers.call(ledger, 0, Ledgers.num(0), 120, 150), "7");
        Ledgers.due("call", Ledgers.call(ledger, 0, Ledgers.num(0), 120, 7), "7");
        Ledgers.due("call that FAILED", Ledgers.call(ledger, 0, Ledgers.num(1), 120, 150), Ledgers.UNSUPPORTED);
        Ledgers.due("call with COST", Ledgers.call(ledger, 0, Ledgers.num(0), 120, 6), Ledgers.ILLEGAL_STATE);
        Ledgers.due("call with no value", Ledgers.call(ledger, 0, N, 120, 150), Ledgers.ILLEGAL_ARGUMENT);
        Ledgers.due("call of the other", Ledgers.call(ledger, 1, ONE, 120, 150), "2");
        Ledgers.due("calls", ledger.about(0, 2), 2);
        Ledgers.due("costs", ledger.about(0, 3), 14);
        Ledgers.due("calls of the other", ledger.about(1, 2), 1);
        Ledgers.due("costs of the other", ledger.about(1, 3), 2);
    }

    private static void keysAndNodes() {
        int[] t = Ledgers.TEXT;
        about("no BIG", natScript(), 4, -1);
        about("a MAP", Ledgers.echo(N, Ledgers.pairType(Ledgers.mapType(N, N), N), Ledgers.pair(Ledgers.row(), ONE)),
            4, -1);
        about("one node", natScript(), 5, 1);
        int[] value = Ledgers.pair(Ledgers.row(Ledgers.entry(ONE, Ledgers.text("a")),
            Ledgers.entry(Ledgers.num(2), Ledgers.text("b"))), Ledgers.some(ONE));
        int[] big = Ledgers.pairType(Ledgers.bigType(N, t), Ledgers.optionType(N));
        about("BIG", Ledgers.echo(N, big, value), 4, 2);
        about("BIG", Ledgers.echo(N, big, value), 5, 1 + 1 + 6 + 2);
        int[] empty = Ledgers.pair(Ledgers.row(), Ledgers.NO_VALUE);
        about("an empty BIG", Ledgers.echo(N, big, empty), 4, 0);
        about("an empty BIG", Ledgers.echo(N, big, empty), 5, 3);
        grows(big, empty);
    }

    private static void grows(int[] big, int[] empty) {
        PactLedger ledger = Ledgers.deployed(Ledgers.script(N, Ledgers.UNIT, big,
            Ledgers.updating(Ledgers.push(Ledgers.optionType(Ledgers.TEXT), Ledgers.some(Ledgers.text("x")))), empty));
        for (int i = 1; i <= 3; i++) {
            Ledgers.due("call", Ledgers.call(ledger, 0, Ledgers.num(i), 120, 150), "14");
            Ledgers.due("keys", ledger.about(0, 4), i);
            Ledgers.due("nodes", ledger.about(0, 5), 3 + 3 * i);
        }
    }
}
