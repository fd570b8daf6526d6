/** Terms, the bounds of TYPES: their words and parts, keys that are SIMPLE, where BIG stands, and how deep they are. */
public final class TypeBoundsTest extends Ledgers {
    private static final int[] PARTS = {0, 0, 0, 0, 0, 2, 1, 2, 1, 2, 2};
    private static final int[] BIG = bigType(NAT, TEXT);
    private static final int[] BAD = word(99);

    public static void main(String[] args) {
        wordsFrom0To10();
        noWordAtAll();
        eachHasSoManyParts();
        partsInTheirOrder();
        keysAreSimple();
        keyThatIsNotSimpleAheadOfTheValue();
        bigStandsInOnePlace();
        bigNowhereElse();
        sevenDeepInAScript();
        sevenDeepInCode();
        sevenDeepByEachType();
        tooDeepBehindItsParts();
        eightDeepOnAStack();
        eightDeepByMap();
        noDeeperByOthers();
        end();
    }

    private static int[] typed(int code, int n) {
        return word(code, times(n, NAT));
    }

    /** That a type is right for a parameter and a result, and of NIL. */
    private static void right(String what, int[] type) {
        kept(what + " of the parameter", echo(type, NAT, ONE));
        kept(what + " of the result", script(NAT, type, NAT, row(FAIL), ONE));
        keptCode(what + " of NIL", nil(type), DROP);
    }

    /** That a type is ILL wherever it stands, so far behind its first byte. */
    private static void wrong(String what, int[] type, int place) {
        int[] rest = join(row(), ONE);
        ill(what + " of the parameter", join(type, NAT, NAT, rest), place);
        ill(what + " of the result", join(NAT, type, NAT, rest), 2 + place);
        ill(what + " of the storage", join(NAT, NAT, type, rest), 4 + place);
        illCode(what + " of PUSH", 2 + place, push(type, ONE));
        illCode(what + " of NONE", 2 + place, none(type));
        illCode(what + " of LEFT", 2 + place, word(42, type));
        illCode(what + " of RIGHT", 2 + place, word(43, type));
        illCode(what + " of NIL", 2 + place, nil(type));
        illCode(what + " of EMPTY", 4 + place, word(51, NAT, type));
    }

    // "TYPES are words: 0 UNIT .. 10 BIG", "at a word that is none, has not so many parts"

    private static void wordsFrom0To10() {
        right("word 0", typed(0, 0));
        right("word 9", typed(9, 2));
        int[] codes = {11, 12, 20, 30, 45, 76, 127, 128, 254, 255};
        for (int code : codes) {
            for (int n = 0; n <= 3; n++) {
                wrong("word " + code + " with " + n, typed(code, n), 0);
            }
        }
    }

    private static void noWordAtAll() {
        wrong("a number", num(3), 0);
        wrong("a text", text(""), 0);
        wrong("an empty row", row(), 0);
        wrong("a row of a type", row(NAT), 0);
    }

    private static void eachHasSoManyParts() {
        for (int code = 0; code < 10; code++) {
            for (int n = 0; n <= 3; n++) {
                String what = "type " + code + " with " + n;
                if (n == PARTS[code]) {
                    right(what, typed(code, n));
                } else {
                    wrong(what, typed(code, n), 0);
                }
            }
        }
        for (int n = 0; n <= 3; n++) {
            int[] type = pairType(typed(10, n), NAT);
            if (n == 2) {
                kept("BIG with " + n, echo(NAT, type, pair(row(), ONE)));
            } else {
                ill("BIG with " + n, echo(NAT, type, pair(row(), ONE)), 6);
            }
        }
    }

    private static void partsInTheirOrder() {
        int[] twos = {5, 7};
        for (int code : twos) {
            wrong("a wrong first part and a wrong second one of " + code, word(code, BAD, BAD), 2);
            wrong("a wrong second part of " + code, word(code, NAT, BAD), 4);
        }
        wrong("a wrong part of OPTION", optionType(BAD), 2);
        wrong("a wrong part of LIST", listType(BAD), 2);
        wrong("a wrong key and a wrong value", mapType(BAD, BAD), 2);
        wrong("a wrong value", mapType(NAT, BAD), 4);
        wrong("a wrong word ahead of its wrong parts", word(11, BAD, BAD), 0);
        wrong("a wrong number of parts ahead of wrong parts", word(5, BAD, BAD, BAD), 0);
    }

    // "k is SIMPLE: BOOL, INT, NAT, TEXT, or a PAIR of two simple ones."

    private static void keysAreSimple() {
        int[][] simple = {
            BOOL, INT, NAT, TEXT, pairType(BOOL, INT), pairType(NAT, TEXT), pairType(pairType(TEXT, INT), BOOL),
            pairType(NAT, pairType(NAT, pairType(BOOL, BOOL)))
        };
        for (int[] key : simple) {
            right("a MAP with keys " + told(key), mapType(key, UNIT));
            keptCode("EMPTY with keys " + told(key), word(51, key, UNIT), DROP);
            kept("a BIG with keys " + told(key), echo(NAT, pairType(bigType(key, UNIT), NAT), pair(row(), ONE)));
        }
        int[][] others = {
            UNIT, optionType(NAT), orType(NAT, NAT), listType(NAT), mapType(NAT, NAT), pairType(UNIT, NAT),
            pairType(NAT, UNIT), pairType(NAT, optionType(NAT)), pairType(pairType(NAT, listType(NAT)), NAT),
            pairType(NAT, pairType(NAT, UNIT))
        };
        for (int[] key : others) {
            wrong("a MAP with keys " + told(key), mapType(key, UNIT), 2);
            illCode("EMPTY with keys " + told(key), 2, word(51, key, UNIT));
            ill("a BIG with keys " + told(key), echo(NAT, pairType(bigType(key, UNIT), NAT), pair(row(), ONE)), 8);
        }
    }

    // "its parts; k that is not simple ahead of a"

    private static void keyThatIsNotSimpleAheadOfTheValue() {
        wrong("a key that is not simple and a wrong value", mapType(UNIT, BAD), 2);
        wrong("a key with a wrong part", mapType(pairType(UNIT, BAD), BAD), 6);
        illCode("EMPTY: a key that is not simple and a wrong value", 2, word(51, UNIT, BAD));
        illCode("EMPTY: a key that is none", 2, word(51, BAD, BAD));
        illCode("EMPTY: a wrong value", 4, word(51, NAT, BAD));
        ill("BIG: a key that is not simple and a wrong value",
            echo(NAT, pairType(bigType(UNIT, BAD), NAT), pair(row(), ONE)), 8);
    }

    // "BIG stands as the first part of the storage's type alone, when that is a PAIR, nowhere else."

    private static void bigStandsInOnePlace() {
        kept("first of the storage's PAIR", echo(NAT, pairType(BIG, NAT), pair(row(), ONE)));
        ill("the storage itself", echo(NAT, BIG, row()), 4);
        ill("second of the storage's PAIR", echo(NAT, pairType(NAT, BIG), pair(ONE, row())), 8);
        ill("both of the storage's PAIR", echo(NAT, pairType(BIG, BIG), pair(row(), row())), 6 + BIG.length);
        ill("first of the storage's OR", echo(NAT, orType(BIG, NAT), left(row())), 6);
        ill("first of the storage's OPTION", echo(NAT, optionType(BIG), NO_VALUE), 6);
        ill("first of the storage's LIST", echo(NAT, listType(BIG), row()), 6);
        ill("first of a PAIR that is first", echo(NAT, pairType(pairType(BIG, NAT), NAT), ONE), 8);
        ill("first of a PAIR that is second", echo(NAT, pairType(NAT, pairType(BIG, NAT)), ONE), 10);
        ill("value of a BIG", echo(NAT, pairType(bigType(NAT, BIG), NAT), ONE), 10);
        ill("key of a BIG", echo(NAT, pairType(bigType(BIG, NAT), NAT), ONE), 8);
        ill("value of a MAP that is first", echo(NAT, pairType(mapType(NAT, BIG), NAT), ONE), 10);
    }

    private static void bigNowhereElse() {
        int[] inPair = pairType(BIG, NAT);
        ill("the parameter", script(BIG, NAT, NAT, row(), ONE), 0);
        ill("the result", script(NAT, BIG, NAT, row(), ONE), 2);
        ill("first of the parameter's PAIR", script(inPair, NAT, NAT, row(), ONE), 2);
        ill("first of the result's PAIR", script(NAT, inPair, NAT, row(), ONE), 4);
        int[] typed = {40, 42, 43, 45};
        for (int code : typed) {
            illCode("of instruction " + code, 2, word(code, BIG));
            illCode("first of the PAIR of instruction " + code, 4, word(code, inPair));
        }
        illCode("of PUSH", 2, push(BIG, row()));
        illCode("first of the PAIR of PUSH", 4, push(inPair, pair(row(), ONE)));
        illCode("value of EMPTY", 4, word(51, NAT, BIG));
        illCode("key of EMPTY", 2, word(51, BIG, NAT));
        ill("of NIL, where the storage has one",
            script(NAT, NAT, inPair, row(nil(BIG), FAIL), pair(row(), ONE)), 4 + inPair.length + 2 + 2);
    }

    /** A type this deep: options in options. */
    private static int[] deep(int depth) {
        int[] type = NAT;
        for (int i = 1; i < depth; i++) {
            type = optionType(type);
        }
        return type;
    }

    // "A type in a script is at most 7 DEEP .. (without parts it is 1 deep, else one more than the deepest of its
    // parts)", "then at the word if it is too deep"

    private static void sevenDeepInAScript() {
        for (int depth = 1; depth <= 7; depth++) {
            kept("a parameter " + depth + " deep", echo(deep(depth), NAT, ONE));
            kept("a result " + depth + " deep", script(NAT, deep(depth), NAT, row(FAIL), ONE));
            kept("a storage " + depth + " deep", echo(NAT, deep(depth), depth == 1 ? ONE : NO_VALUE));
        }
        ill("a parameter 8 deep", echo(deep(8), NAT, ONE), 0);
        ill("a result 8 deep", script(NAT, deep(8), NAT, row(FAIL), ONE), 2);
        ill("a storage 8 deep", echo(NAT, deep(8), NO_VALUE), 4);
        ill("a parameter 9 deep", echo(deep(9), NAT, ONE), 2);
        refused("a parameter 10 deep", echo(deep(10), NAT, ONE), ILLEGAL_ARGUMENT, 18);
        int[] value = pair(row(), ONE);
        kept("a BIG in a storage 7 deep", echo(NAT, pairType(bigType(NAT, deep(5)), NAT), value));
        ill("a BIG in a storage 8 deep", echo(NAT, pairType(bigType(NAT, deep(6)), NAT), value), 4);
        ill("a BIG 8 deep", echo(NAT, pairType(bigType(NAT, deep(7)), NAT), value), 6);
    }

    private static void sevenDeepInCode() {
        // A part of an instruction is 3 deep as a node, so that a type 8 deep can't be read there.
        int[] typed = {40, 42, 43, 45};
        for (int code : typed) {
            keptCode("7 deep of instruction " + code, push(NAT, ONE), word(code, deep(7)), DROP, FAIL);
            refused("8 deep of instruction " + code, natScript(push(NAT, ONE), word(code, deep(8))), ILLEGAL_ARGUMENT,
                FIRST + 6 + 2 + 14);
        }
        keptCode("7 deep of PUSH", push(deep(7), NO_VALUE), DROP);
        keptCode("7 deep of EMPTY", word(51, NAT, deep(7)), DROP);
        refused("8 deep of EMPTY", natScript(word(51, NAT, deep(8))), ILLEGAL_ARGUMENT, FIRST + 4 + 14);
    }

    private static void sevenDeepByEachType() {
        int[][] seven = {
            pairType(deep(6), NAT), pairType(NAT, deep(6)), optionType(deep(6)), orType(deep(6), NAT),
            orType(NAT, deep(6)), listType(deep(6)), mapType(NAT, deep(6)), mapType(keys(6), NAT)
        };
        int[][] eight = {
            pairType(deep(7), NAT), pairType(NAT, deep(7)), optionType(deep(7)), orType(deep(7), NAT),
            orType(NAT, deep(7)), listType(deep(7)), mapType(NAT, deep(7)), mapType(keys(7), NAT)
        };
        for (int i = 0; i < seven.length; i++) {
            kept("7 deep: " + told(seven[i]), echo(seven[i], NAT, ONE));
            ill("8 deep: " + told(eight[i]), echo(eight[i], NAT, ONE), 0);
            ill("8 deep as a first part: " + told(eight[i]), echo(pairType(eight[i], NAT), NAT, ONE), 2);
        }
    }

    /** A simple type this deep. */
    private static int[] keys(int depth) {
        int[] type = NAT;
        for (int i = 1; i < depth; i++) {
            type = pairType(NAT, type);
        }
        return type;
    }

    private static void tooDeepBehindItsParts() {
        ill("a wrong second part ahead of the depth", echo(pairType(deep(7), BAD), NAT, ONE), 2 + deep(7).length);
        ill("a first part 8 deep ahead of a wrong second one", echo(pairType(deep(8), BAD), NAT, ONE), 2);
        ill("a key 8 deep ahead of its not being simple", echo(mapType(deep(8), NAT), NAT, ONE), 2);
        ill("a key that is not simple ahead of the depth", echo(mapType(deep(7), NAT), NAT, ONE), 2);
        ill("a value 8 deep", echo(mapType(NAT, deep(8)), NAT, ONE), 4);
    }

    // "on a stack 8", "then at it if .. a type gets too deep"

    private static void eightDeepOnAStack() {
        int[] six = none(deep(5));
        int[] seven = none(deep(6));
        int[] eight = none(deep(7));
        int[] number = push(NAT, ONE);
        int[][] deepOnTop = {SOME, PAIR, word(42, NAT), word(43, NAT)};
        for (int[] step : deepOnTop) {
            keptCode("7 deep by " + told(step), six, step, DROP, PUSH_UNIT, FAIL);
            keptCode("8 deep by " + told(step), seven, step, DROP, PUSH_UNIT, FAIL);
            illCode("9 deep by " + told(step), eight.length, eight, step);
        }
        keptCode("8 deep by PAIR, the deep one below", seven, number, PAIR, DROP);
        illCode("9 deep by PAIR, the deep one below", eight.length + number.length, eight, number, PAIR);
        keptCode("8 deep by the type of LEFT", number, word(42, deep(7)), DROP);
        keptCode("8 deep by the type of RIGHT", number, word(43, deep(7)), DROP);
        keptCode("8 deep by NIL", nil(deep(7)), DROP);
        keptCode("8 deep by EMPTY", word(51, NAT, deep(7)), DROP);
        kept("8 deep at first, and at last", script(deep(7), deep(7), deep(7), row(), NO_VALUE));
        ill("9 deep by SOME at first", script(deep(7), deep(7), deep(7), row(SOME), NO_VALUE), 3 * 14 + 2);
        illCode("a wrong type of LEFT ahead of the depth", eight.length + 2, eight, word(42, BAD));
        illCode("a type that gets too deep in DIP", eight.length + 6 + 4, eight, number, dip(SOME));
    }

    private static void eightDeepByMap() {
        int[] list = nil(deep(6));
        keptCode("8 deep by MAP", list, mapEach(SOME), DROP);
        illCode("9 deep by MAP", list.length, list, mapEach(SOME, SOME), DROP);
        illCode("9 deep in MAP", list.length + 4 + 4, list, mapEach(SOME, SOME, SOME), DROP);
        keptCode("9 deep by MAP were it not for what goes off", list, mapEach(SOME, SOME, DROP, push(NAT, ONE)), DROP);
    }

    private static void noDeeperByOthers() {
        int[] map = word(51, NAT, deep(7));
        keptCode("ITER of a map 8 deep", map, iter(DROP));
        keptCode("GET of a map 8 deep", map, push(NAT, ONE), word(52), DROP);
        keptCode("IFCONS of a list 8 deep", nil(deep(7)), word(47, row(DROP, DROP), row()));
        keptCode("DUP and SWAP of one 8 deep", none(deep(7)), DUP, SWAP, DROP, DROP);
        keptCode("DIP over one 8 deep", none(deep(7)), dip(DUP, DROP), DROP);
    }
}
