/** Terms, the bound of cost: what each instruction and each beginning of A costs, and COST on both sides of the bound. */
public final class CostBoundsTest extends Instructions {
    private static final int[] IDLE = dip();
    private static final int[] LISTS = listType(NAT);

    public static void main(String[] args) {
        eachInstructionCosts1();
        eachBeginningOfIter();
        eachBeginningOfMap();
        eachBeginningOfLoop();
        instructionsInOthersWhenTheyAreDone();
        updateOfAMapWithNKeys();
        updateOfABig();
        updatesOneBehindTheOther();
        theLeastBound();
        theGreatestBound();
        costAheadOfWhatIsDone();
        nothingMoreIsDone();
        end();
    }

    /** That a call costs just this: a bound of one less is COST, just this and one more are not. */
    private static void costs(String what, int[] script, int[] parameter, int cost) {
        PactLedger ledger = deployed(script);
        if (cost > 1) {
            due(what + ", one less than " + cost, call(ledger, 0, parameter, 120, cost - 1), ILLEGAL_STATE);
            due(what + ", output", output(ledger), NOTHING);
            due(what + ", wrong()", ledger.wrong(), -1);
            due(what + ", about(0, 2)", ledger.about(0, 2), 0);
            due(what + ", about(0, 3)", ledger.about(0, 3), 0);
        }
        due(what + ", just " + cost, call(ledger, 0, parameter, 120, Math.max(1, cost)), Integer.toString(cost));
        due(what + ", about(0, 3)", ledger.about(0, 3), cost);
        due(what + ", one more than " + cost, call(ledger, 0, parameter, 120, Math.min(150, cost + 1)),
            Integer.toString(cost));
        due(what + ", about(0, 3)", ledger.about(0, 3), 2 * cost);
    }

    // "Each instruction costs 1"

    private static void eachInstructionCosts1() {
        for (Instruction instruction : ALL) {
            int[] codes = instruction.wanted();
            int[] parameter = packed(23, VALUES, codes);
            PactLedger ledger = deployed(onStack(instruction.node(), codes));
            // A UNIT and a FAIL stand behind it, if it is no FAIL itself.
            boolean fails = instruction.code == 76;
            int cost = costUpTo3(codes.length) + 1 + instruction.extra + (fails ? 0 : 2);
            String what = "instruction " + instruction.code;
            due(what + ", one less", call(ledger, 0, parameter, 120, cost - 1), ILLEGAL_STATE);
            due(what + ", output", output(ledger), NOTHING);
            due(what + ", just that", call(ledger, 0, parameter, 120, cost), UNSUPPORTED);
            due(what + ", output", output(ledger), fails ? parameter : THE_UNIT);
            due(what + ", one more", call(ledger, 0, parameter, 120, cost + 1), UNSUPPORTED);
        }
    }

    // "each time that A of ITER, MAP or LOOP begins 1"

    private static void eachBeginningOfIter() {
        int[] counts = {0, 1, 2, 39, 40};
        for (int n : counts) {
            costs("ITER of " + n, pure(LISTS, UNIT, step(iter(DROP)), steps(35)), many(n, ONE), 4 + 2 + 2 * n);
        }
        int[] maps = mapType(NAT, NAT);
        costs("ITER of an empty map", pure(maps, UNIT, step(iter(DROP)), steps(35)), map(), 4 + 2);
        costs("ITER of a map", pure(maps, UNIT, step(iter(DROP)), steps(35)), map(1, 1, 2, 2, 3, 3), 4 + 2 + 2 * 3);
    }

    private static void eachBeginningOfMap() {
        int[] counts = {0, 1, 2, 39, 40};
        for (int n : counts) {
            costs("MAP of " + n, pure(LISTS, LISTS, step(mapEach())), many(n, ONE), 4 + 1 + n);
            costs("MAP of " + n + " with one in it", pure(LISTS, LISTS, step(mapEach(IDLE))), many(n, ONE),
                4 + 1 + 2 * n);
        }
    }

    private static void eachBeginningOfLoop() {
        // Each bool of the list is brought from it by IFCONS; behind the last one comes false.
        int[] lists = listType(BOOL);
        int[] next = word(47, row(), row(nil(BOOL), push(BOOL, FALSE)));
        int[] counts = {0, 1, 2, 10, 40};
        for (int n : counts) {
            // The last IFCONS finds an empty list, and two more are done.
            costs("LOOP " + n + " times", pure(lists, lists, step(next), step(loop(next))), many(n, TRUE),
                4 + 1 + 1 + 2 * n + 2);
        }
        costs("LOOP of false", pure(BOOL, UNIT, step(loop(push(BOOL, FALSE))), steps(35)), FALSE, 4 + 2);
        costs("LOOP of true, once", pure(BOOL, UNIT, step(loop(push(BOOL, FALSE))), steps(35)), TRUE, 4 + 2 + 2);
    }

    private static void instructionsInOthersWhenTheyAreDone() {
        int[] branch = word(58, row(IDLE), row(IDLE, IDLE, IDLE));
        costs("IF, the first", pure(BOOL, BOOL, step(DUP), step(branch)), TRUE, 4 + 2 + 1);
        costs("IF, the second", pure(BOOL, BOOL, step(DUP), step(branch)), FALSE, 4 + 2 + 3);
        costs("DIP", pure(NAT, NAT, step(DUP), step(dip(IDLE, IDLE)), step(DROP)), ONE, 4 + 3 + 2);
        costs("no instruction", echo(NAT, NAT, ONE), ONE, 0);
    }

    // "UPDATE of a MAP with n keys ahead of it n more"

    private static void updateOfAMapWithNKeys() {
        int[][] options = {push(optionType(NAT), some(num(9))), none(NAT)};
        int[] type = pairType(mapType(NAT, NAT), NAT);
        for (int[] option : options) {
            for (int n = 0; n <= 12; n += n < 3 ? 1 : 9) {
                int[][] entries = new int[n][];
                for (int i = 0; i < n; i++) {
                    entries[i] = entry(num(2 * i + 1), ONE);
                }
                // The keys 1, 3, .. are there, 0, 2, .. are not.
                for (int key = 0; key <= 2 * n + 1; key++) {
                    PactLedger ledger = deployed(script(NAT, UNIT, type, updating(option), pair(row(entries), ONE)));
                    String what = "UPDATE of a map of " + n + " with key " + key;
                    due(what + ", one less", call(ledger, 0, num(key), 1, 13 + n), ILLEGAL_STATE);
                    due(what, call(ledger, 0, num(key), 1, 14 + n), Integer.toString(14 + n));
                }
            }
        }
    }

    private static void updateOfABig() {
        int[][] options = {push(optionType(NAT), some(num(9))), none(NAT)};
        int[] type = pairType(bigType(NAT, NAT), NAT);
        for (int[] option : options) {
            for (int n = 0; n <= 3; n++) {
                int[] big = n == 0 ? map() : n == 1 ? map(1, 1) : n == 2 ? map(1, 1, 3, 3) : map(1, 1, 3, 3, 5, 5);
                costs("UPDATE of a BIG of " + n, script(NAT, UNIT, type, updating(option), pair(big, ONE)), ONE, 14);
            }
        }
    }

    /** The map has more keys, or fewer, when the next UPDATE comes. */
    private static void updatesOneBehindTheOther() {
        int[] maps = mapType(NAT, NAT);
        int[] nine = push(optionType(NAT), some(num(9)));
        int[][] put = {nine, push(NAT, num(5)), word(53), nine, push(NAT, num(6)), word(53)};
        costs("two that come", pure(maps, maps, put), map(1, 1, 2, 2), 4 + 6 + 2 + 3);
        int[][] take = {none(NAT), push(NAT, num(1)), word(53), none(NAT), push(NAT, num(2)), word(53)};
        costs("two that go", pure(maps, maps, take), map(1, 1, 2, 2), 4 + 6 + 2 + 1);
        int[][] same = {nine, push(NAT, num(1)), word(53), nine, push(NAT, num(1)), word(53)};
        costs("one twice", pure(maps, maps, same), map(1, 1, 2, 2), 4 + 6 + 2 + 2);
    }

    // "it has COST when the cost would come above the bound"

    private static void theLeastBound() {
        PactLedger none = deployed(natScript());
        due("no instruction within 1", call(none, 0, ONE, 1, 1), "0");
        PactLedger one = deployed(natScript(IDLE));
        due("one within 1", call(one, 0, ONE, 1, 1), "1");
        PactLedger two = deployed(natScript(IDLE, IDLE));
        due("two within 1", call(two, 0, ONE, 1, 1), ILLEGAL_STATE);
        due("two within 2", call(two, 0, ONE, 1, 2), "2");
    }

    private static void theGreatestBound() {
        for (int idle = 0; idle <= 4; idle++) {
            int cost = 148 + idle;
            int[][] twice = {DUP, iter(DROP), iter(DROP)};
            PactLedger ledger = deployed(pure(LISTS, UNIT, twice, steps(35), times(idle, IDLE)));
            due("a cost of " + cost + " within 150", call(ledger, 0, many(35, ONE), 1, 150),
                cost > 150 ? ILLEGAL_STATE : Integer.toString(cost));
            due("a cost of " + cost + " within 149", call(ledger, 0, many(35, ONE), 1, 149),
                cost > 149 ? ILLEGAL_STATE : Integer.toString(cost));
            due("a cost of " + cost + " within 151", call(ledger, 0, many(35, ONE), 1, 151), ILLEGAL_ARGUMENT);
        }
        PactLedger endless = deployed(pure(NAT, NAT, step(push(BOOL, TRUE)), step(loop(push(BOOL, TRUE)))));
        due("a LOOP without end", call(endless, 0, ONE, 1, 150), ILLEGAL_STATE);
        PactLedger idle = deployed(pure(NAT, NAT, step(push(BOOL, TRUE)),
            step(loop(push(BOOL, TRUE), push(BOOL, TRUE), word(55)))));
        due("another LOOP without end", call(idle, 0, ONE, 1, 150), ILLEGAL_STATE);
    }

    // "It is all paid ahead of what is done"

    private static void costAheadOfWhatIsDone() {
        // CAR, then PUSH, then an ADD that has SIZE with one bit.
        PactLedger sum = deployed(pure(NAT, NAT, step(push(NAT, ONE)), steps(60)));
        due("COST ahead of the SIZE of ADD", call(sum, 0, ONE, 1, 2), ILLEGAL_STATE);
        due("SIZE of ADD ahead of later COST", call(sum, 0, ONE, 1, 3), ARITHMETIC);
        PactLedger text = deployed(pure(TEXT, TEXT, steps(31, 75)));
        due("COST ahead of the SIZE of CONCAT", call(text, 0, text("12345"), 1, 2), ILLEGAL_STATE);
        due("SIZE of CONCAT ahead of later COST", call(text, 0, text("12345"), 1, 3), ARITHMETIC);
        PactLedger fail = deployed(script(NAT, NAT, NAT, row(CAR, FAIL), ONE));
        due("COST ahead of FAIL", call(fail, 0, num(7), 1, 1), ILLEGAL_STATE);
        due("output", output(fail), NOTHING);
        due("FAIL", call(fail, 0, num(7), 1, 2), UNSUPPORTED);
        due("output", output(fail), num(7));
        // The A of an ITER begins ahead of its FAIL.
        PactLedger each = deployed(pure(LISTS, UNIT, step(iter(push(BOOL, TRUE), word(58, row(FAIL), row(DROP)))),
            steps(35)));
        due("COST at the beginning of A", call(each, 0, many(1, ONE), 1, 2), ILLEGAL_STATE);
        due("COST at FAIL in A", call(each, 0, many(1, ONE), 1, 5), ILLEGAL_STATE);
        due("FAIL in A", call(each, 0, many(1, ONE), 1, 6), UNSUPPORTED);
        // SIZE of the result comes when all is done, so that COST is ahead of it.
        int[] units = listType(UNIT);
        PactLedger large = deployed(pure(units, units, steps(35, 46)));
        due("COST ahead of a large result", call(large, 0, many(40, THE_UNIT), 1, 5), ILLEGAL_STATE);
        due("a large result", call(large, 0, many(40, THE_UNIT), 1, 6), ARITHMETIC);
    }

    // "nothing more is done"

    private static void nothingMoreIsDone() {
        int[] type = pairType(bigType(NAT, NAT), NAT);
        int[] put = push(optionType(NAT), some(num(9)));
        PactLedger ledger = deployed(script(NAT, UNIT, type, updating(put), pair(map(1, 1), num(5))));
        for (int bound = 1; bound < 14; bound++) {
            due("COST within " + bound, call(ledger, 0, num(2), 1, bound), ILLEGAL_STATE);
            due("output", output(ledger), NOTHING);
            due("storage", storage(ledger, 0), pair(num(1), num(5)));
            due("keys", ledger.about(0, 4), 1);
        }
        due("call", call(ledger, 0, num(2), 1, 14), "14");
        due("storage", storage(ledger, 0), pair(num(2), num(5)));
    }
}
