import java.util.Arrays;

/** Terms, the bounds of INSTRUCTIONS in THE CHECK: their words and parts, and what must be on the stack. */
public final class InstructionBoundsTest extends Instructions {
    // An instruction that leaves the stack as it is.
    private static final int[] IDLE = dip();

    public static void main(String[] args) {
        wordsFrom30To76();
        eachHasSoManyParts();
        eachTypeThatMayBeOnTop();
        tooFewOnTheStack();
        twoOfOneSimpleType();
        elementsKeysAndOptionsOfOneType();
        partsThatMustBeRows();
        whatIsOnTopAheadOfTheParts();
        codeIsARow();
        codeFromEmptyTo40();
        end();
    }

    // "at it if .. it is no instruction"

    private static void wordsFrom30To76() {
        due("instructions of the table", ALL.length, 47);
        for (int i = 0; i < ALL.length; i++) {
            due("instruction " + i, ALL[i].code, 30 + i);
        }
        for (int code = 0; code < 256; code++) {
            for (int n = 0; n <= 3 && (code < 30 || code > 76); n++) {
                ill("word " + code + " with " + n, onStack(word(code, times(n, row())), 0), placeOnStack(0));
            }
        }
        ill("a number", onStack(ONE, 0), placeOnStack(0));
        ill("a text", onStack(text("a"), 0), placeOnStack(0));
        ill("a row", onStack(row(DROP), 0), placeOnStack(0));
        ill("an empty row", onStack(row(), 0), placeOnStack(0));
    }

    // "or has not so many parts"

    private static void eachHasSoManyParts() {
        for (Instruction instruction : ALL) {
            int[] codes = instruction.wanted();
            for (int n = 0; n <= 3; n++) {
                int[][] parts = Arrays.copyOf(instruction.parts, n);
                for (int i = instruction.parts.length; i < n; i++) {
                    parts[i] = row();
                }
                String what = "instruction " + instruction.code + " with " + n;
                if (n == instruction.parts.length) {
                    kept(what, onStack(word(instruction.code, parts), codes));
                } else {
                    ill(what, onStack(word(instruction.code, parts), codes), placeOnStack(codes));
                }
            }
        }
    }

    // "At each instruction the types must be there as told", "what is on top is not as it must be"

    private static void eachTypeThatMayBeOnTop() {
        for (Instruction instruction : ALL) {
            for (int place = 0; place < instruction.accepted.length; place++) {
                for (int type = 0; type < TYPES.length; type++) {
                    int[] codes = instruction.wanted();
                    codes[place] = type;
                    String what = "instruction " + instruction.code + " with type " + type + " at " + place;
                    if (instruction.accepts(place, type)) {
                        kept(what, onStack(instruction.node(), codes));
                    } else {
                        ill(what, onStack(instruction.node(), codes), placeOnStack(codes));
                    }
                }
            }
        }
    }

    private static void tooFewOnTheStack() {
        for (Instruction instruction : ALL) {
            int[] codes = instruction.wanted();
            for (int n = 0; n < codes.length; n++) {
                int[] fewer = Arrays.copyOf(codes, n);
                ill("instruction " + instruction.code + " on " + n, onStack(instruction.node(), fewer),
                    placeOnStack(fewer));
            }
            if (codes.length < 3) {
                int[] more = Arrays.copyOf(codes, codes.length + 1);
                kept("instruction " + instruction.code + " with one below", onStack(instruction.node(), more));
            }
        }
    }

    // "68 COMPARE x, y .. by the order of two of one simple type"

    private static void twoOfOneSimpleType() {
        for (int x = 0; x < TYPES.length; x++) {
            for (int y = 0; y < TYPES.length; y++) {
                String what = "COMPARE of types " + x + " and " + y;
                if (x == y && x >= 1 && x <= 5) {
                    kept(what, onStack(word(68), x, y));
                } else {
                    ill(what, onStack(word(68), x, y), placeOnStack(x, y));
                }
            }
        }
    }

    /** A script whose parameter is the pair of these two, which come onto the stack, the first one on top. */
    private static int[] onTwo(int[] top, int[] second, int[] node) {
        return script(pairType(top, second), UNIT, UNIT, row(then(upTo3(2), node, PUSH_UNIT, FAIL)), THE_UNIT);
    }

    private static void onTwo(String what, int[] top, int[] second, int code, boolean right) {
        int[] script = onTwo(top, second, word(code));
        if (right) {
            kept(what, script);
        } else {
            ill(what, script, 2 + top.length + second.length + 6 + 10);
        }
    }

    private static void elementsKeysAndOptionsOfOneType() {
        for (int x = 0; x < TYPES.length; x++) {
            for (int y = 0; y < TYPES.length; y++) {
                onTwo("CONS of " + x + " to a list of " + y, TYPES[x], listType(TYPES[y]), 46, x == y);
                if (y >= 1 && y <= 5) {
                    onTwo("GET of " + x + " from keys of " + y, TYPES[x], mapType(TYPES[y], UNIT), 52, x == y);
                    onTwo("MEM of " + x + " in keys of " + y, TYPES[x], mapType(TYPES[y], UNIT), 54, x == y);
                }
                int[] update = script(pairType(optionType(TYPES[x]), mapType(NAT, TYPES[y])), UNIT, UNIT,
                    row(then(upTo3(2), push(NAT, ONE), word(53), PUSH_UNIT, FAIL)), THE_UNIT);
                if (x == y) {
                    kept("UPDATE of " + x, update);
                } else {
                    ill("UPDATE of " + x + " in values of " + y, update, update.length - 2 - 4 - 2);
                }
            }
        }
    }

    // "then in its parts in order (a part that must be a ROW and is none: at that)"

    private static void partsThatMustBeRows() {
        int[] withCode = {33, 41, 44, 47, 49, 50, 58, 59};
        int[][] noRows = {ONE, text("a"), DROP, NAT};
        for (int code : withCode) {
            Instruction instruction = ALL[code - 30];
            int[] codes = instruction.wanted();
            int place = placeOnStack(codes) + 2;
            for (int i = 0; i < instruction.parts.length; i++) {
                for (int[] noRow : noRows) {
                    int[][] parts = instruction.parts.clone();
                    parts[i] = noRow;
                    ill("part " + i + " of instruction " + code, onStack(word(code, parts), codes), place);
                }
                place += instruction.parts[i].length;
            }
            if (instruction.parts.length == 2) {
                ill("both parts of instruction " + code, onStack(word(code, ONE, ONE), codes), placeOnStack(codes) + 2);
                ill("a wrong first part ahead of the second one", onStack(word(code, row(ONE), ONE), codes),
                    placeOnStack(codes) + 4);
            }
        }
    }

    // "An instruction: at it if .. what is on top is not as it must be ..; then in its parts in order"

    private static void whatIsOnTopAheadOfTheParts() {
        for (Instruction instruction : ALL) {
            if (instruction.parts.length > 0 && instruction.accepted.length > 0) {
                int[] node = word(instruction.code, times(instruction.parts.length, ONE));
                ill("an empty stack and wrong parts of " + instruction.code, onStack(node), placeOnStack());
                if (!instruction.accepts(0, 0)) {
                    ill("a unit and wrong parts of " + instruction.code, onStack(node, 0), placeOnStack(0));
                }
            }
        }
        ill("a wrong number of parts ahead of wrong parts", onStack(word(58, ONE), 1), placeOnStack(1));
        ill("PUSH: its type ahead of its value", onStack(push(word(99), word(99))), placeOnStack() + 2);
        ill("PUSH: its value", onStack(push(NAT, word(99))), placeOnStack() + 4);
    }

    // "CODE is a ROW of INSTRUCTIONS"

    private static void codeIsARow() {
        int[][] noRows = {ONE, text("a"), DROP, FAIL, NAT};
        for (int[] noRow : noRows) {
            ill("code that is no row", script(NAT, NAT, NAT, noRow, ONE), 6);
        }
        kept("code that is an empty row", script(NAT, NAT, NAT, row(), ONE));
    }

    private static void codeFromEmptyTo40() {
        int[] counts = {0, 1, 2, 38, 39};
        for (int n : counts) {
            PactLedger ledger = deployed(natScript(then(times(n, IDLE), FAIL)));
            due("instructions", ledger.about(0, 0), n + 1);
        }
        refused("41 instructions", natScript(then(times(40, IDLE), FAIL)), ILLEGAL_ARGUMENT, 7);
    }
}
