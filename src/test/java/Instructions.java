import java.util.Arrays;

/** A table of all instructions: their parts, the types that they may find on the stack, and what they cost. */
class Instructions extends Ledgers {
    /** For each type's code up to MAP a type over NATs, and a value of it. */
    static final int[][] TYPES = {
        UNIT, BOOL, INT, NAT, TEXT, pairType(NAT, NAT), optionType(NAT), orType(NAT, NAT), listType(NAT),
        mapType(NAT, NAT)
    };
    static final int[][] VALUES = {
        THE_UNIT, TRUE, num(2), ONE, text("a"), pair(ONE, ONE), some(ONE), left(ONE), row(ONE), row(entry(ONE, ONE))
    };

    private static final int[] ANY = {0, 1, 2, 3, 4, 5, 6, 7, 8, 9};
    private static final int[] NUMBERS = {2, 3};
    private static final int[] EMPTY_ROW = row();

    static final Instruction[] ALL = {
        new Instruction(30).on(ANY), new Instruction(31).on(ANY), new Instruction(32).on(ANY).on(ANY),
        new Instruction(33, EMPTY_ROW).on(ANY), new Instruction(34, NAT, ONE), new Instruction(35),
        new Instruction(36).on(ANY).on(ANY), new Instruction(37).on(5), new Instruction(38).on(5),
        new Instruction(39).on(ANY), new Instruction(40, NAT),
        new Instruction(41, row(push(NAT, ONE)), EMPTY_ROW).on(6), new Instruction(42, NAT).on(ANY),
        new Instruction(43, NAT).on(ANY), new Instruction(44, EMPTY_ROW, EMPTY_ROW).on(7), new Instruction(45, NAT),
        new Instruction(46).on(3).on(8), new Instruction(47, row(DROP, DROP), EMPTY_ROW).on(8).more(2),
        new Instruction(48).on(8, 9, 4), new Instruction(49, row(DROP)).on(8, 9).more(2),
        new Instruction(50, EMPTY_ROW).on(8).more(1), new Instruction(51, NAT, NAT), new Instruction(52).on(3).on(9),
        new Instruction(53).on(3).on(6).on(9).more(1), new Instruction(54).on(3).on(9),
        new Instruction(55).on(1).on(1), new Instruction(56).on(1).on(1), new Instruction(57).on(1),
        new Instruction(58, EMPTY_ROW, EMPTY_ROW).on(1), new Instruction(59, row(push(BOOL, FALSE))).on(1).more(2),
        new Instruction(60).on(NUMBERS).on(NUMBERS), new Instruction(61).on(NUMBERS).on(NUMBERS),
        new Instruction(62).on(NUMBERS).on(NUMBERS), new Instruction(63).on(NUMBERS).on(NUMBERS),
        new Instruction(64).on(NUMBERS), new Instruction(65).on(2), new Instruction(66).on(2), new Instruction(67).on(3),
        new Instruction(68).on(3).on(3), new Instruction(69).on(2), new Instruction(70).on(2), new Instruction(71).on(2),
        new Instruction(72).on(2), new Instruction(73).on(2), new Instruction(74).on(2), new Instruction(75).on(4).on(4),
        new Instruction(76).on(0, 1, 2, 3, 4, 5)
    };

    /** One instruction of the table. */
    static final class Instruction {
        final int code;
        final int[][] parts;
        // For each place of the stack, the top first, the codes of the types that may be there.
        int[][] accepted = {};
        // What is paid for beside the instruction itself when it is done on VALUES.
        int extra = 0;

        Instruction(int code, int[]... parts) {
            this.code = code;
            this.parts = parts;
        }

        Instruction on(int... codes) {
            accepted = Arrays.copyOf(accepted, accepted.length + 1);
            accepted[accepted.length - 1] = codes;
            return this;
        }

        Instruction more(int cost) {
            extra = cost;
            return this;
        }

        int[] node() {
            return word(code, parts);
        }

        boolean accepts(int place, int type) {
            return Arrays.stream(accepted[place]).anyMatch(code -> code == type);
        }

        /** The codes of types that it finds as they must be. */
        int[] wanted() {
            return Arrays.stream(accepted).mapToInt(codes -> codes[0]).toArray();
        }
    }

    /** Types, or values, as a parameter from which upTo3() brings them onto the stack. */
    static int[] packed(int code, int[][] all, int... codes) {
        int[] packed = codes.length == 0 ? all[0] : all[codes[codes.length - 1]];
        for (int i = codes.length - 2; i >= 0; i--) {
            packed = word(code, all[codes[i]], packed);
        }
        return packed;
    }

    /** Code that brings n parts of the parameter onto the stack, or leaves the stack empty. */
    static int[][] upTo3(int n) {
        if (n == 0) {
            return steps(30);
        }
        int[][] one = steps(37);
        int[][] two = then(one, DUP, CDR, SWAP, CAR);
        return n == 1 ? one : n == 2 ? two : then(two, dip(DUP, CDR, SWAP, CAR));
    }

    /** What upTo3(n) costs. */
    static int costUpTo3(int n) {
        return n < 2 ? 1 : n == 2 ? 5 : 10;
    }

    /** A script that does this on a stack with these types alone, and then FAILs if that doesn't. */
    static int[] onStack(int[] node, int... codes) {
        int[][] code = then(upTo3(codes.length), node);
        int[][] all = node[1] == 76 ? code : then(code, PUSH_UNIT, FAIL);
        return script(packed(5, TYPES, codes), UNIT, UNIT, row(all), THE_UNIT);
    }

    /** The place of the node in onStack(). */
    static int placeOnStack(int... codes) {
        return packed(5, TYPES, codes).length + 2 + 2 + 2 + join(upTo3(codes.length)).length;
    }
}
