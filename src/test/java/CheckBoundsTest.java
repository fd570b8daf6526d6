/** Terms, THE CHECK: 12 on the stack, what A and B must leave, what is FAILED, and in which order a script is ILL. */
public final class CheckBoundsTest extends Instructions {
    private static final int[] PUSH_NAT = push(NAT, ONE);
    private static final int[] PUSH_TRUE = push(BOOL, TRUE);
    private static final int[] FAILS = row(PUSH_UNIT, FAIL);
    private static final int[] LIST = nil(NAT);
    private static final int[] BAD = word(99);

    public static void main(String[] args) {
        twelveByEachThatPushes();
        partsAheadOfThe13th();
        twelveWithWhatDipHolds();
        ifconsWith12();
        ifconsWith12AndDip();
        noneMoreByBranchesAndLoops();
        branchesLeaveTheSame();
        iterLeavesWhatIsBelow();
        mapLeavesOneOnThat();
        loopLeavesABool();
        dipLeavesAny();
        failedEndsItsRow();
        failedBranches();
        theOtherStackCounts();
        mustNotBeFailed();
        theCodeLeavesThePairAlone();
        fiveNodesInTheirOrder();
        insideAheadOfWhatTheyLeave();
        end();
    }

    /** Code that begins with so many on the stack: the pair of two NATs and copies of it. */
    private static int[][] filled(int n) {
        return times(n - 1, DUP);
    }

    /** That nodes are kept where so many are on the stack; a FAIL ends the code then, for it leaves too many. */
    private static void keptOn(int n, String what, int[]... nodes) {
        keptCode(what + " with " + n, then(then(filled(n), nodes), DROP, DROP, PUSH_NAT, FAIL));
    }

    /** That a node behind so many on the stack is ILL so far behind its first byte. */
    private static void illOn(int n, String what, int place, int[]... nodes) {
        illCode(what + " with " + n, 2 * (n - 1) + place, then(filled(n), nodes));
    }

    // "No more than 12 are on the stack at a time (with what DIP holds).", "then at it if .. more than 12 are on the
    // stack"

    private static void twelveByEachThatPushes() {
        int[][] pushing = {DUP, PUSH_NAT, PUSH_UNIT, none(NAT), LIST, word(51, NAT, NAT)};
        for (int[] node : pushing) {
            keptOn(10, "one more by " + told(node), node);
            keptOn(11, "one more by " + told(node), node);
            illOn(12, "one more by " + told(node), 0, node);
            illOn(11, "two more by " + told(node), node.length, node, node);
        }
        int[][] others = {SWAP, DROP, PAIR, CAR, CDR, SOME, word(42, NAT), word(43, NAT), dip()};
        for (int[] node : others) {
            keptOn(12, "no more by " + told(node), node);
        }
        PactLedger ledger = deployed(natScript(then(filled(12), FAIL)));
        due("12, about(0, 1)", ledger.about(0, 1), 12);
        ledger = deployed(natScript(then(filled(11), FAIL)));
        due("11, about(0, 1)", ledger.about(0, 1), 11);
    }

    private static void partsAheadOfThe13th() {
        illOn(12, "NIL of a wrong type", 2, nil(BAD));
        illOn(12, "NONE of a wrong type", 2, none(BAD));
        illOn(12, "PUSH of a wrong type", 2, push(BAD, ONE));
        illOn(12, "PUSH of a wrong value", 4, push(NAT, num(-1)));
        illOn(12, "EMPTY of a wrong key", 2, word(51, UNIT, NAT));
        illOn(12, "EMPTY of a wrong value", 4, word(51, NAT, BAD));
    }

    private static void twelveWithWhatDipHolds() {
        keptOn(11, "DIP and one more", dip(DUP));
        illOn(12, "DIP and one more", 4, dip(DUP));
        illOn(11, "DIP and two more", 6, dip(DUP, DUP));
        keptOn(11, "DIP in DIP and one more", dip(dip(DUP)));
        illOn(12, "DIP in DIP and one more", 8, dip(dip(DUP)));
        keptOn(12, "DIP, one less and one more", dip(DROP, PUSH_NAT));
        illOn(12, "DIP, one less and two more", 6 + PUSH_NAT.length, dip(DROP, PUSH_NAT, PUSH_NAT));
        // Behind DIP what it held is on the stack again.
        illOn(11, "one more in DIP and one behind it", 6, dip(DUP), DUP);
        keptOn(10, "one more in DIP and one behind it", dip(DUP), DUP);
        PactLedger ledger = deployed(natScript(then(filled(10), dip(dip(dip(DUP, DUP, DROP))), FAIL)));
        due("10 and two, with what three of DIP hold", ledger.about(0, 1), 12);
    }

    // "or, for IFCONS, 12 are on the stack"

    private static void ifconsWith12() {
        int[] ifcons = word(47, row(DROP, DROP), row());
        keptOn(9, "a list and IFCONS", LIST, ifcons);
        keptOn(10, "a list and IFCONS", LIST, ifcons);
        illOn(11, "a list and IFCONS", 4, LIST, ifcons);
        illOn(11, "a list and IFCONS with wrong parts", 4, LIST, word(47, ONE, ONE));
        illOn(10, "a list and IFCONS with wrong parts", 6, LIST, word(47, ONE, ONE));
        illOn(10, "one more in IFCONS", 4 + 4, LIST, word(47, row(DUP, DROP, DROP, DROP), row()));
        keptOn(9, "one more in IFCONS", LIST, word(47, row(DUP, DROP, DROP, DROP), row()));
        keptOn(10, "two more where IFCONS has an empty list", LIST,
            word(47, row(DROP, DROP), row(PUSH_NAT, PUSH_NAT, DROP, DROP)));
        illOn(10, "three more where IFCONS has an empty list", 4 + 2 + 6 + 2 + 12, LIST,
            word(47, row(DROP, DROP), row(PUSH_NAT, PUSH_NAT, PUSH_NAT)));
        illOn(11, "IFCONS of no list", 0, word(47, row(), row()));
        about12("IFCONS with 11", then(filled(10), LIST, word(47, row(DROP, DROP), row()), FAIL), 12);
        about12("IFCONS with 10", then(filled(9), LIST, word(47, row(DROP, DROP), row()), FAIL), 11);
    }

    private static void about12(String what, int[][] code, int want) {
        due(what + ", about(0, 1)", deployed(natScript(code)).about(0, 1), want);
    }

    private static void ifconsWith12AndDip() {
        int[] ifcons = word(47, row(DROP, DROP), row());
        keptOn(10, "a list and IFCONS in DIP", dip(LIST, ifcons));
        illOn(11, "a list and IFCONS in DIP", 4 + 4, dip(LIST, ifcons));
        about12("IFCONS in DIP with 11", then(filled(10), dip(LIST, ifcons), FAIL), 12);
        about12("IFCONS in DIP in DIP with 5", then(filled(4), dip(dip(LIST, ifcons)), FAIL), 6);
    }

    private static void noneMoreByBranchesAndLoops() {
        int[] left = word(42, NAT);
        keptOn(11, "ITER", LIST, iter(DROP));
        illOn(11, "one more in ITER", 4 + 4, LIST, iter(DUP, DROP, DROP));
        keptOn(10, "one more in ITER", LIST, iter(DUP, DROP, DROP));
        keptOn(11, "MAP", LIST, mapEach());
        illOn(11, "one more in MAP", 4 + 4, LIST, mapEach(DUP, DROP));
        keptOn(11, "LOOP and one more in it", PUSH_TRUE, loop(PUSH_TRUE));
        illOn(11, "two more in LOOP", 6 + 4 + 6, PUSH_TRUE, loop(PUSH_TRUE, PUSH_TRUE));
        keptOn(11, "IFNONE", none(NAT), word(41, row(PUSH_NAT), row()));
        illOn(11, "one more in IFNONE", 4 + 2 + 8 + 2, none(NAT), word(41, row(PUSH_NAT), row(DUP)));
        keptOn(12, "IFLEFT", left, word(44, row(DROP), row(DROP)));
        illOn(12, "one more in the first of IFLEFT", 4 + 4, left, word(44, row(DUP), row()));
        illOn(12, "one more in the second of IFLEFT", 4 + 2 + 2 + 2, left, word(44, row(), row(DUP)));
        keptOn(11, "IF and one more in it", PUSH_TRUE, word(58, row(PUSH_NAT), row(PUSH_NAT)));
        illOn(11, "two more in IF", 6 + 4 + 6, PUSH_TRUE, word(58, row(PUSH_NAT, PUSH_NAT), row()));
    }

    // "A and B of IF, IFNONE, IFLEFT and IFCONS leave the same stack", "then at it if what they leave is not as told"

    private static void branchesLeaveTheSame() {
        int[][] before = {PUSH_TRUE, none(NAT), word(42, NAT), LIST};
        int[] codes = {58, 41, 44, 47};
        // What leaves the pair of two NATs or, behind LEFT, which takes it, a NAT.
        int[][] firsts = {row(), row(), row(DROP, PUSH_NAT), row(DROP, DROP)};
        int[][] seconds = {row(), row(DROP), row(DROP, PUSH_NAT), row()};
        for (int i = 0; i < codes.length; i++) {
            int place = before[i].length;
            int[] a = firsts[i];
            int[] b = seconds[i];
            String what = "instruction " + codes[i];
            keptCode(what + " with the same", before[i], word(codes[i], a, b), FAIL);
            illCode(what + " with one more by A", place, before[i], word(codes[i], with(a, PUSH_NAT), b), FAIL);
            illCode(what + " with one more by B", place, before[i], word(codes[i], a, with(b, PUSH_NAT)), FAIL);
            keptCode(what + " with one more by both", before[i],
                word(codes[i], with(a, PUSH_NAT), with(b, PUSH_NAT)), FAIL);
            illCode(what + " with another type on top", place, before[i],
                word(codes[i], with(a, PUSH_NAT), with(b, push(INT, ONE))), FAIL);
            illCode(what + " with another type below", place, before[i],
                word(codes[i], with(a, PUSH_TRUE, PUSH_NAT), with(b, PUSH_NAT, PUSH_NAT)), FAIL);
            illCode(what + " with another type inside", place, before[i],
                word(codes[i], with(a, PUSH_NAT, SOME), with(b, PUSH_TRUE, SOME)), FAIL);
        }
        keptCode("empty stacks", PUSH_TRUE, word(58, row(DROP), row(DROP)), PUSH_NAT, FAIL);
        illCode("an empty stack and one", PUSH_TRUE.length, PUSH_TRUE, word(58, row(DROP), row()), PUSH_NAT, FAIL);
    }

    /** A row with these behind its own. */
    private static int[] with(int[] row, int[]... more) {
        int[] all = join(row, join(more));
        all[1] += more.length;
        return all;
    }

    // "A of ITER leaves what is below the element"

    private static void iterLeavesWhatIsBelow() {
        keptCode("just that", LIST, iter(DROP));
        illCode("one more", LIST.length, LIST, iter());
        illCode("one less", LIST.length, LIST, iter(DROP, DROP));
        illCode("two more", LIST.length, LIST, iter(DUP));
        keptCode("one taken and one of its type left", PUSH_NAT, LIST, iter(word(60)), DROP);
        illCode("one taken and one of another type left", 6 + 4, PUSH_NAT, LIST, iter(word(61)), DROP);
        keptCode("just that of a map", word(51, TEXT, NAT), iter(DROP));
        illCode("one more of a map", 6, word(51, TEXT, NAT), iter(CDR));
    }

    // "of MAP one on that"

    private static void mapLeavesOneOnThat() {
        keptCode("the element", LIST, mapEach(), DROP);
        keptCode("another one", LIST, mapEach(DROP, PUSH_TRUE), DROP);
        illCode("none", LIST.length, LIST, mapEach(DROP), DROP);
        illCode("two", LIST.length, LIST, mapEach(DUP), DROP);
        illCode("two less", LIST.length, LIST, mapEach(DROP, DROP), DROP);
        illCode("one on another type", 6 + 4, PUSH_NAT, LIST, mapEach(dip(DROP, PUSH_TRUE)), DROP, DROP);
        keptCode("one on another number", PUSH_NAT, LIST, mapEach(dip(DROP, PUSH_NAT)), DROP, DROP);
        // The list is one of what A leaves.
        keptCode("a list of bools", LIST, mapEach(DROP, PUSH_TRUE), PUSH_TRUE, CONS, DROP);
        illCode("no list of NATs", 4 + 4 + 2 + 6 + 6, LIST, mapEach(DROP, PUSH_TRUE), PUSH_NAT, CONS, DROP);
    }

    // "of LOOP what is below the bool and a BOOL on it"

    private static void loopLeavesABool() {
        keptCode("a bool", PUSH_TRUE, loop(PUSH_TRUE));
        illCode("nothing", PUSH_TRUE.length, PUSH_TRUE, loop());
        illCode("a number", PUSH_TRUE.length, PUSH_TRUE, loop(PUSH_NAT));
        illCode("a bool on one more", PUSH_TRUE.length, PUSH_TRUE, loop(PUSH_NAT, PUSH_TRUE));
        illCode("a bool on one less", PUSH_TRUE.length, PUSH_TRUE, loop(DROP, PUSH_TRUE));
        keptCode("a bool on another number", PUSH_NAT, PUSH_TRUE, loop(DROP, PUSH_NAT, PUSH_TRUE), DROP);
        illCode("a bool on another type", 12, PUSH_NAT, PUSH_TRUE, loop(DROP, PUSH_TRUE, PUSH_TRUE), DROP);
    }

    // "of DIP any"

    private static void dipLeavesAny() {
        keptCode("as it was", PUSH_NAT, dip(), DROP);
        keptCode("one more", PUSH_NAT, dip(PUSH_NAT), DROP, DROP);
        keptCode("one less", PUSH_NAT, dip(DROP), FAIL);
        keptCode("another one", PUSH_NAT, dip(DROP, PUSH_TRUE), DROP, FAIL);
        keptCode("DIP with one on the stack", dip(), FAIL);
        keptCode("DIP with an empty stack below", dip(PUSH_NAT), FAIL);
        illCode("DIP that takes what is not there", 4, dip(DROP));
    }

    // "a FAILED one ends its ROW, which is FAILED too", "at it if its ROW is FAILED"

    private static void failedEndsItsRow() {
        keptCode("FAIL as the last one", FAIL);
        int[][] behind = {FAIL, DROP, PUSH_UNIT, BAD, ONE, row(), word(30, ONE), push(NAT, num(-1))};
        for (int[] node : behind) {
            illCode("behind FAIL: " + told(node), 2, FAIL, node);
            illCode("behind FAIL in a row: " + told(node), 6 + 2 + 2 + 2, PUSH_TRUE, word(58, row(FAIL, node), row()));
        }
        keptCode("FAIL in a row that is not the code's", PUSH_TRUE, word(58, row(FAIL), row()), DUP, DROP);
    }

    // "and so is IF, IFNONE, IFLEFT, IFCONS with A and B FAILED"

    private static void failedBranches() {
        int[][] before = {PUSH_TRUE, none(NAT), word(42, NAT), LIST};
        int[] codes = {58, 41, 44, 47};
        for (int i = 0; i < codes.length; i++) {
            int[] both = word(codes[i], FAILS, FAILS);
            int place = before[i].length + both.length;
            keptCode("both FAILED of " + codes[i], before[i], both);
            illCode("behind both FAILED of " + codes[i], place, before[i], both, PUSH_UNIT);
            keptCode("both FAILED in a branch", PUSH_TRUE, word(58, row(before[i], both), row()), FAIL);
            illCode("both FAILED in DIP", 2, DUP, dip(before[i], both));
        }
    }

    // "where A or B is so, the other one's stack counts"

    private static void theOtherStackCounts() {
        int[][] before = {PUSH_TRUE, none(NAT), word(42, NAT), LIST};
        int[] codes = {58, 41, 44, 47};
        // How many come on for A and for B.
        int[][] drops = {{0, 0}, {0, 1}, {1, 1}, {2, 0}};
        for (int i = 0; i < codes.length; i++) {
            int[] a = row(then(times(drops[i][0], DROP), PUSH_TRUE));
            int[] b = row(then(times(drops[i][1], DROP), PUSH_TRUE));
            // Behind LEFT the pair is inside the OR, so that it is gone.
            int[][] rest = codes[i] == 44 ? new int[][] {DROP} : new int[][] {DROP, DUP, DROP};
            int[][] end = {PUSH_UNIT, FAIL};
            keptCode("A FAILED of " + codes[i], then(then(new int[][] {before[i], word(codes[i], FAILS, b)}, rest), end));
            keptCode("B FAILED of " + codes[i], then(then(new int[][] {before[i], word(codes[i], a, FAILS)}, rest), end));
            illCode("A FAILED of " + codes[i] + ", B leaves a bool", before[i].length + word(codes[i], FAILS, b).length,
                before[i], word(codes[i], FAILS, b), word(67));
            illCode("B FAILED of " + codes[i] + ", A leaves a bool", before[i].length + word(codes[i], a, FAILS).length,
                before[i], word(codes[i], a, FAILS), word(67));
        }
    }

    // "an A of DIP, ITER, MAP, LOOP must not be FAILED"

    private static void mustNotBeFailed() {
        int[][] before = {PUSH_NAT, LIST, LIST, PUSH_TRUE};
        int[] codes = {33, 49, 50, 59};
        for (int i = 0; i < codes.length; i++) {
            illCode("FAILED of " + codes[i], before[i].length, before[i], word(codes[i], FAILS));
            illCode("FAILED inside ahead of it", before[i].length + 2 + 2 + 4, before[i],
                word(codes[i], with(FAILS, PUSH_UNIT)));
        }
        keptCode("a branch in ITER that FAILED", LIST, iter(DROP, PUSH_TRUE, word(58, FAILS, row())));
    }

    // "The code leaves the PAIR of result and storage alone, or is FAILED.", "Code that leaves another stack at its
    // end: at its ROW."

    private static void theCodeLeavesThePairAlone() {
        keptCode("the pair alone");
        illCode("nothing", -2, DROP);
        illCode("two", -2, DUP);
        illCode("the pair under another one", -2, PUSH_NAT);
        illCode("no pair", -2, CAR);
        illCode("an option of the pair", -2, SOME);
        int[] code = row(DROP, push(TEXT, text("")), PUSH_TRUE, PAIR);
        kept("a pair of BOOL and TEXT", script(NAT, BOOL, TEXT, code, text("")));
        ill("another result", script(NAT, NAT, TEXT, code, text("")), 6);
        ill("another storage", script(NAT, BOOL, NAT, code, ONE), 6);
        ill("result and storage in turn", script(NAT, TEXT, BOOL, code, TRUE), 6);
        keptCode("FAILED code", FAIL);
        keptCode("FAILED code with more on the stack", DUP, DUP, FAIL);
    }

    // "types, code and value are gone over in their order"

    private static void fiveNodesInTheirOrder() {
        int[][] right = {NAT, NAT, NAT, row(), ONE};
        for (int from = 0; from < 5; from++) {
            int[][] nodes = right.clone();
            for (int i = from; i < 5; i++) {
                nodes[i] = BAD;
            }
            ill("wrong from " + from + " on", join(nodes), 2 * from);
        }
        kept("all right", join(right));
        ill("what the code leaves ahead of the value", script(NAT, NAT, NAT, row(DROP), BAD), 6);
        ill("an instruction ahead of the value", script(NAT, NAT, NAT, row(BAD), BAD), 8);
        ill("the value of code that FAILED", script(NAT, NAT, NAT, row(FAIL), BAD), 10);
        ill("a part of a type ahead of the next type", script(listType(BAD), BAD, BAD, BAD, BAD), 2);
    }

    private static void insideAheadOfWhatTheyLeave() {
        illCode("B is wrong inside, and A leaves another stack", 6 + 2 + 4 + 2, PUSH_TRUE, word(58, row(DUP), row(BAD)));
        illCode("a wrong one ahead of a later one", 2, DUP, BAD, ONE);
        illCode("a wrong one inside ahead of a later one", 6 + 4, PUSH_TRUE, word(58, row(BAD), row()), BAD);
        illCode("what A leaves ahead of a later one", 6, PUSH_TRUE, loop(), BAD);
    }
}
