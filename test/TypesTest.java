/** Promises 6 to 13: the types. A type that is due is mostly told, too, and its CODE taken from ofType(). */
final class TypesTest extends Promises {
    private static final int[] NO_TYPE = {-1, 5, 33, MOST, LEAST};

    public static void main(String[] arguments) {
        TypesTest test = new TypesTest();
        test.ofTells();
        test.ofRefuses();
        test.tellingEnds();
        test.parameterTells();
        test.arrayTells();
        test.ofTypeTells();
        test.ofTypeKeeps();
        test.ofTypeMembers();
        test.belowPlain();
        test.belowOfBoundsAndArrays();
        test.belowOfArguments();
        test.belowAsAnother();
        test.belowIsEightDeep();
        test.joinPlain();
        test.joinOfBoundsAndArrays();
        test.joinOfClasses();
        test.joinOfArguments();
        test.asPuts();
        test.asGoesTheFirstWay();
        test.areAllOfSealed();
        test.areAllOfWhatCannotBe();
        test.refusals();
        test.check.end();
    }

    /** Whether the first is below the other one, and whether the other way round. */
    private void below(String what, BoundWright x, int one, int other, boolean due, boolean dueTurned) {
        check.due(what + ", isBelow", x.isBelow(one, other), due);
        check.due(what + ", isBelow turned", x.isBelow(other, one), dueTurned);
    }

    /** The join both ways. */
    private void join(String what, BoundWright x, int one, int other, int due) {
        check.due(what + ", join", x.join(one, other), due);
        check.due(what + ", join turned", x.join(other, one), due);
    }

    // ---- promises 6 to 8

    private void ofTells() {
        BoundWright x = new BoundWright();
        int list = x.kind(OUT, NONE, false);
        int pair = x.kind(NEITHER, IN, false);
        int plain = x.kind(NONE, NONE, false);
        check.due("the first new type", x.of(list, ANY, 0), 5);
        check.due("the next", x.of(list, exact(BOX), 0), 6);
        check.due("another mode is another type", x.of(list, out(BOX), 0), 7);
        check.due("and another", x.of(list, in(BOX), 0), 8);
        check.due("told again", x.of(list, exact(BOX), 0), 6);
        check.due("without parameters", x.of(plain, 0, 0), 9);
        check.due("told again, plain", x.of(plain, 0, 0), 9);
        check.due("two arguments", x.of(pair, in(6), ANY), 10);
        check.due("turned", x.of(pair, ANY, in(6)), 11);
        check.due("with VARIABLE", x.of(list, out(VARIABLE), 0), 12);
        check.due("the smallest argument that is one", x.of(list, exact(OBJECT), 0), 13);
        check.due("OBJECT is there", x.of(0, 0, 0), OBJECT);
        check.due("BOX is there", x.of(1, 0, 0), BOX);
        check.due("many(1)", x.many(1), 14);
        int three = x.of(list, exact(6), 0);
        int four = x.of(pair, exact(BOX), out(three));
        check.argument("5 deep, first", x, () -> x.of(pair, exact(four), ANY));
        check.argument("5 deep, second", x, () -> x.of(pair, ANY, in(four)));
        check.argument("5 deep, array", x, () -> x.array(four));
        check.due("ANY has no depth", x.ofType(x.of(pair, exact(three), ANY), 0), 2);
    }

    private void ofRefuses() {
        BoundWright x = new BoundWright();
        int list = x.kind(OUT, NONE, false);
        int pair = x.kind(NEITHER, IN, false);
        int plain = x.kind(NONE, NONE, false);
        for (int none : new int[] {-1, 5, 14, MOST, LEAST}) {
            check.bounds("of(" + none + ", 0, 0)", x, () -> x.of(none, 0, 0));
            check.bounds("of(" + none + ", 1, 1) is refused for the class first", x, () -> x.of(none, 1, 1));
        }
        for (int wrong : new int[] {0, 1, 2, 3, 4, 5, -2, -3, 15, 16, 99, MOST, LEAST}) {
            check.argument("first " + wrong, x, () -> x.of(list, wrong, 0));
            check.argument("first of two " + wrong, x, () -> x.of(pair, wrong, ANY));
            check.argument("second of two " + wrong, x, () -> x.of(pair, ANY, wrong));
        }
        for (int wrong : new int[] {-1, 1, 6, 9, MOST, LEAST}) {
            check.argument("where there is none, first " + wrong, x, () -> x.of(plain, wrong, 0));
            check.argument("where there is none, second " + wrong, x, () -> x.of(plain, 0, wrong));
            check.argument("where there is no second " + wrong, x, () -> x.of(list, ANY, wrong));
            check.argument("OBJECT " + wrong, x, () -> x.of(0, wrong, 0));
        }
        check.due("many(1)", x.many(1), 5);
    }

    private void tellingEnds() {
        BoundWright x = new BoundWright();
        int pair = x.kind(NEITHER, NEITHER, false);
        int told = 5;
        for (int one = OBJECT; one < 12 && told < 32; one++) {
            for (int mode = 0; mode < 3 && told < 32; mode++) {
                int argument = 3 * one + mode;
                check.due("of() of number " + told, x.of(pair, argument, ANY), told);
                told = x.many(1);
            }
        }
        check.due("27 are told", x.many(1), 32);
        check.due("the last one", x.parameter(pair, 1), 32);
        check.due("28 are told", x.many(1), 33);
        check.state("one more of()", x, () -> x.of(pair, ANY, exact(BOX)));
        check.state("one more parameter()", x, () -> x.parameter(pair, 0));
        check.state("one more array()", x, () -> x.array(BOX));
        check.due("one that is there, of()", x.of(pair, out(OBJECT), ANY), 6);
        check.due("one that is there, parameter()", x.parameter(pair, 1), 32);
        check.argument("no argument is refused first", x, () -> x.of(pair, 5, ANY));
        check.argument("NULL is refused first", x, () -> x.array(NULL));
        check.bounds("no class is refused first", x, () -> x.parameter(9, 0));
        check.due("a join goes beyond them", x.join(x.of(pair, out(OBJECT), ANY), BOX), 50);
    }

    private void parameterTells() {
        BoundWright x = new BoundWright();
        int pair = x.kind(NEITHER, IN, false);
        int list = x.kind(OUT, NONE, false);
        check.due("parameter(pair, 1)", x.parameter(pair, 1), 5);
        check.due("parameter(pair, 0)", x.parameter(pair, 0), 6);
        check.due("parameter(list, 0)", x.parameter(list, 0), 7);
        check.due("told again", x.parameter(pair, 1), 5);
        check.due("CODE of it", codeOf(x, 5), 10 + 2 * pair + 1);
        check.due("CODE of the first", codeOf(x, 6), 10 + 2 * pair);
        check.bounds("no second one", x, () -> x.parameter(list, 1));
        for (int none : new int[] {-1, 2, MOST, LEAST}) {
            check.bounds("parameter(pair, " + none + ")", x, () -> x.parameter(pair, none));
        }
        for (int none : new int[] {-1, 4, MOST, LEAST}) {
            check.bounds("parameter(" + none + ", 0)", x, () -> x.parameter(none, 0));
        }
        check.bounds("of OBJECT", x, () -> x.parameter(0, 0));
        check.bounds("of BOX", x, () -> x.parameter(1, 0));
    }

    private void arrayTells() {
        BoundWright x = new BoundWright();
        check.due("array(INT)", x.array(INT), 5);
        check.due("array(VARIABLE)", x.array(VARIABLE), 6);
        check.due("array(array(INT))", x.array(5), 7);
        check.due("told again", x.array(5), 7);
        check.due("4 deep", x.array(7), 8);
        check.argument("5 deep", x, () -> x.array(8));
        check.argument("NULL", x, () -> x.array(NULL));
        for (int none : new int[] {-1, 9, MOST, LEAST}) {
            check.bounds("array(" + none + ")", x, () -> x.array(none));
        }
    }

    // ---- promise 9

    private void ofTypeTells() {
        BoundWright x = new BoundWright();
        int list = x.kind(OUT, NONE, false);
        int pair = x.kind(NEITHER, IN, false);
        int of = x.of(list, exact(BOX), 0);
        int any = x.of(list, ANY, 0);
        int second = x.parameter(pair, 1);
        int array = x.array(x.array(second));
        int two = x.of(pair, ANY, out(OBJECT));
        int twice = x.of(list, exact(of), 0);
        int big = x.of(pair, exact(twice), exact(twice));
        int variable = x.of(pair, in(VARIABLE), ANY);
        int inside = x.of(list, out(x.array(second)), 0);
        int[] types = {of, any, second, array, two, twice, big, variable, inside};
        int[] sorts = {2, 2, 4, 5, 2, 2, 2, 2, 2};
        int[] erased = {list, list, 0, 2000, pair, list, pair, pair, list};
        int arrayOfSecond = 17 * (10 + 2 * pair + 1) + 5;
        int[] codes = {52 * 31 + 8 + 3 * 51, 52 * 31 + 7, 10 + 2 * pair + 1, 17 * arrayOfSecond + 5,
            (53 * 31 + 7) * 31 + 8 + 3 * 50 + 1, 52 * 31 + 8 + 3 * 1773, 17396, (53 * 31 + 8 + 3 * 3 + 2) * 31 + 7,
            52 * 31 + 8 + 3 * arrayOfSecond + 1};
        int[] closed = {1, 1, 0, 0, 1, 1, 1, 0, 0};
        for (int k = 0; k < types.length; k++) {
            check.due("ofType(" + types[k] + ", 0)", x.ofType(types[k], 0), sorts[k]);
            check.due("ofType(" + types[k] + ", 1)", x.ofType(types[k], 1), erased[k]);
            check.due("ofType(" + types[k] + ", 2)", x.ofType(types[k], 2), codes[k]);
            check.due("ofType(" + types[k] + ", 3)", x.ofType(types[k], 3), closed[k]);
            check.due("ofType(" + types[k] + ", 4)", x.ofType(types[k], 4), 1);
        }
        check.due("CODE of an ARRAY, the rest", codeOf(x, x.array(twice)), 17 * 6939 + 5 - 99991);
        int ints = x.array(INT);
        check.due("ERASED of an ARRAY of INT", x.ofType(ints, 1), 1100);
        check.due("ERASED of an ARRAY of VARIABLE", x.ofType(x.array(VARIABLE), 1), 1000);
        x.bound(pair, 1, of);
        check.due("ERASED of what its BOUND is now", x.ofType(array, 1), 2000 + list);
        check.due("CODE stays", codeOf(x, second), 10 + 2 * pair + 1);
    }

    private void ofTypeKeeps() {
        BoundWright x = new BoundWright();
        int boxes = x.kind(NEITHER, NONE, false);
        int list = x.kind(NEITHER, NONE, false);
        int comparable = x.kind(NEITHER, NONE, false);
        int self = x.kind(NONE, NONE, false);
        int both = x.kind(NEITHER, NEITHER, false);
        x.bound(boxes, 0, BOX);
        int bad = x.of(boxes, exact(OBJECT), 0);
        check.due("EXACT", x.ofType(x.of(boxes, exact(BOX), 0), 4), 1);
        check.due("EXACT of what is not below", x.ofType(bad, 4), 0);
        check.due("OUT of what is not below", x.ofType(x.of(boxes, out(OBJECT), 0), 4), 0);
        check.due("IN is not asked", x.ofType(x.of(boxes, in(OBJECT), 0), 4), 1);
        check.due("ANY is not asked", x.ofType(x.of(boxes, ANY, 0), 4), 1);
        check.due("an ARRAY of such", x.ofType(x.array(bad), 4), 0);
        check.due("one in it", x.ofType(x.of(list, exact(bad), 0), 4), 0);
        check.due("one in it that is IN", x.ofType(x.of(list, in(bad), 0), 4), 0);
        int element = x.parameter(list, 0);
        int ofParameter = x.of(boxes, exact(element), 0);
        check.due("a PARAMETER by its BOUND, OBJECT", x.ofType(ofParameter, 4), 0);
        x.bound(list, 0, BOX);
        check.due("a PARAMETER by its BOUND, BOX", x.ofType(ofParameter, 4), 1);
        check.due("a PARAMETER itself", x.ofType(element, 4), 1);
        int compared = x.parameter(comparable, 0);
        x.bound(comparable, 0, x.of(comparable, exact(compared), 0));
        int selfType = x.of(self, 0, 0);
        int ofSelf = x.of(comparable, exact(selfType), 0);
        check.due("a BOUND with itself, not kept", x.ofType(ofSelf, 4), 0);
        x.extend(self, ofSelf);
        check.due("a BOUND with itself, kept", x.ofType(ofSelf, 4), 1);
        check.due("OUT is put in with its MODE", x.ofType(x.of(comparable, out(selfType), 0), 4), 1);
        check.due("of BOX not", x.ofType(x.of(comparable, exact(BOX), 0), 4), 0);
        x.bound(both, 1, x.of(comparable, exact(x.parameter(both, 0)), 0));
        check.due("by the other ARGUMENT", x.ofType(x.of(both, exact(selfType), exact(selfType)), 4), 1);
        check.due("by the other ARGUMENT, not", x.ofType(x.of(both, exact(BOX), exact(selfType)), 4), 0);
        check.due("by the other ARGUMENT, ANY", x.ofType(x.of(both, ANY, exact(selfType)), 4), 1);
    }

    private void ofTypeMembers() {
        BoundWright x = new BoundWright();
        int low = x.kind(NEITHER, NONE, false);
        int lowType = x.of(low, ANY, 0);
        int parameter = x.parameter(low, 0);
        int array = x.array(lowType);
        x.method(0, 0, NONE, NONE, NONE, INT, false);
        x.method(low, 1, NONE, NONE, NONE, INT, false);
        x.method(low, 2, NONE, NONE, NONE, INT, false);
        check.due("of a class", x.ofType(lowType, 5), 3);
        check.due("of a PARAMETER, by its BOUND", x.ofType(parameter, 5), 1);
        x.bound(low, 0, lowType);
        check.due("of a PARAMETER, by its BOUND then", x.ofType(parameter, 5), 3);
        for (int type : new int[] {INT, NULL, OBJECT, BOX, VARIABLE, array}) {
            check.due("those of OBJECT, " + type, x.ofType(type, 5), 1);
        }
    }

    // ---- promise 10

    private void belowPlain() {
        BoundWright x = new BoundWright();
        int low = x.of(x.kind(NONE, NONE, false), 0, 0);
        boolean[][] due = {
            {true, false, false, false, false, false},
            {false, true, true, true, true, true},
            {false, false, true, false, false, false},
            {false, false, true, true, false, false},
            {false, false, true, false, true, false},
            {false, false, true, false, false, true},
        };
        for (int one = 0; one <= low; one++) {
            for (int other = 0; other <= low; other++) {
                check.due("isBelow(" + one + ", " + other + ")", x.isBelow(one, other), due[one][other]);
            }
        }
    }

    private void belowOfBoundsAndArrays() {
        BoundWright x = new BoundWright();
        int list = x.kind(NEITHER, NONE, false);
        int parameter = x.parameter(list, 0);
        int ofBox = x.of(list, exact(BOX), 0);
        below("a PARAMETER with OBJECT", x, parameter, BOX, false, false);
        below("OBJECT", x, parameter, OBJECT, true, false);
        below("NULL", x, NULL, parameter, true, false);
        x.bound(list, 0, ofBox);
        below("its BOUND", x, parameter, ofBox, true, false);
        below("above its BOUND", x, parameter, x.of(list, ANY, 0), true, false);
        int boxes = x.array(BOX);
        int objects = x.array(OBJECT);
        int ints = x.array(INT);
        below("ARRAYS", x, boxes, objects, true, false);
        below("an ARRAY and OBJECT", x, ints, OBJECT, true, false);
        below("ARRAYS of INT and OBJECT", x, ints, objects, false, false);
        below("ARRAYS of INT and BOX", x, ints, boxes, false, false);
        check.due("an ARRAY of INT and itself", x.isBelow(ints, ints), true);
        below("ARRAYS of ARRAYS of INT", x, x.array(ints), objects, true, false);
        below("NULL and ARRAYS", x, NULL, ints, true, false);
        below("ARRAYS of VARIABLE", x, x.array(VARIABLE), objects, true, false);
        below("an ARRAY and BOX", x, boxes, BOX, false, false);
        below("ARRAYS of PARAMETERS", x, x.array(parameter), x.array(ofBox), true, false);
    }

    private void belowOfArguments() {
        for (int variance = NEITHER; variance <= IN; variance++) {
            BoundWright x = new BoundWright();
            int list = x.kind(variance, NONE, false);
            int low = x.kind(NONE, NONE, false);
            x.extend(low, OBJECT);
            int lowType = x.of(low, 0, 0);
            int top = x.kind(NONE, NONE, false);
            int topType = x.of(top, 0, 0);
            int under = x.kind(NONE, NONE, false);
            x.extend(under, topType);
            int underType = x.of(under, 0, 0);
            int[] types = {
                x.of(list, ANY, 0), x.of(list, exact(topType), 0), x.of(list, out(topType), 0),
                x.of(list, in(topType), 0), x.of(list, exact(underType), 0), x.of(list, out(underType), 0),
                x.of(list, in(underType), 0), x.of(list, exact(OBJECT), 0), x.of(list, out(OBJECT), 0),
                x.of(list, in(OBJECT), 0), x.of(list, exact(lowType), 0),
            };
            for (int one = 0; one < types.length; one++) {
                StringBuilder row = new StringBuilder();
                for (int type : types) {
                    row.append(x.isBelow(types[one], type) ? '1' : '0');
                }
                check.due("VARIANCE " + variance + ", row " + one, row.toString(), ROWS[variance][one]);
            }
        }
    }

    /** ANY, then Top EXACT, OUT, IN, Under EXACT, OUT, IN, OBJECT EXACT, OUT, IN, Low EXACT: below which of these. */
    private static final String[][] ROWS = {
        {"10000000100", "11110010100", "10100000100", "10010010100", "10101110100", "10100100100", "10000010100",
            "10010011110", "10000000100", "10010010110", "10000000101"},
        {"10000001100", "11100001100", "11100001100", "10010011100", "11101101100", "11101101100", "10000011100",
            "10000001100", "10000001100", "10010011110", "10000001101"},
        {"10000000100", "11011010100", "10100000100", "11011010100", "10001010100", "10100100100", "10001010100",
            "11011011111", "10000000100", "11011011111", "10000000101"},
    };

    private void belowAsAnother() {
        BoundWright x = new BoundWright();
        int list = x.kind(OUT, NONE, false);
        int pair = x.kind(NEITHER, NEITHER, false);
        int low = x.kind(NEITHER, NONE, false);
        int element = x.parameter(low, 0);
        int first = x.parameter(pair, 0);
        x.extend(pair, x.of(list, exact(first), 0));
        x.extend(low, x.of(pair, exact(element), exact(BOX)));
        int lowOfBox = x.of(low, exact(BOX), 0);
        int lowOfAny = x.of(low, ANY, 0);
        int lowOutBox = x.of(low, out(BOX), 0);
        int listOfBox = x.of(list, exact(BOX), 0);
        int listOfObject = x.of(list, exact(OBJECT), 0);
        below("EXACT", x, lowOfBox, listOfBox, true, false);
        below("by the VARIANCE", x, lowOfBox, listOfObject, true, false);
        below("OUT", x, lowOutBox, listOfBox, true, false);
        below("ANY", x, lowOfAny, listOfBox, false, false);
        below("ANY and OUT of OBJECT", x, lowOfAny, listOfObject, true, false);
        below("two above", x, lowOfBox, x.of(pair, exact(BOX), exact(BOX)), true, false);
        below("the other ARGUMENT", x, lowOfBox, x.of(pair, exact(BOX), exact(OBJECT)), false, false);
        below("no class above", x, lowOfBox, BOX, false, false);
    }

    private static boolean isChainBelow(int endArgument, int varianceOfEnd, int from) {
        Chain chain = new Chain(endArgument, varianceOfEnd, 0);
        return chain.x.isBelow(chain.types[from], chain.ofTypes[from + 1]);
    }

    /** The chain from the class on, 1 deeper: a PARAMETER stands for what is asked about first. */
    private static boolean isBoundBelow(int from) {
        Chain chain = new Chain(exact(BOX), NEITHER, 0);
        BoundWright x = chain.x;
        int kind = x.kind(NEITHER, NONE, false);
        int parameter = x.parameter(kind, 0);
        x.bound(kind, 0, chain.types[from + 1]);
        return x.isBelow(chain.types[from], x.of(chain.n, exact(parameter), 0));
    }

    /** The chain from the class on, 1 deeper: ARRAYS of what is asked about first. */
    private static boolean isArrayBelow(int from) {
        Chain chain = new Chain(exact(BOX), NEITHER, from + 1);
        BoundWright x = chain.x;
        x.extend(chain.kinds[from], x.of(chain.n, exact(x.array(chain.ofTypes[from + 2])), 0));
        return x.isBelow(chain.types[from], x.of(chain.n, exact(x.array(chain.types[from + 1])), 0));
    }

    /** Whether what extends the SEALED class with A of that number cannot be what is asked about. */
    private static boolean isCovered(int from) {
        Chain chain = new Chain(exact(BOX), NEITHER, 0);
        BoundWright x = chain.x;
        int kind = x.kind(OUT, NONE, true);
        int low = x.kind(NONE, NONE, false);
        x.extend(low, x.of(kind, exact(chain.types[from]), 0));
        return x.areAll(x.of(kind, exact(chain.ofTypes[from + 1]), 0), 0);
    }

    private void belowIsEightDeep() {
        check.due("the same EXACT, not deeper", isChainBelow(exact(BOX), NEITHER, 0), true);
        check.due("ANY, not deeper", isChainBelow(ANY, OUT, 0), true);
        check.due("OUT of OBJECT, not deeper", isChainBelow(exact(OBJECT), OUT, 0), true);
        check.due("the same OUT is 8 deep", isChainBelow(exact(BOX), OUT, 0), false);
        check.due("the same OUT is 7 deep", isChainBelow(exact(BOX), OUT, 1), true);
        check.due("the same IN is 8 deep", isChainBelow(exact(BOX), IN, 0), false);
        check.due("the same IN is 7 deep", isChainBelow(exact(BOX), IN, 1), true);
        check.due("of a BOUND it is 8 deep", isBoundBelow(0), false);
        check.due("of a BOUND it is 7 deep", isBoundBelow(1), true);
        check.due("of ARRAYS it is 8 deep", isArrayBelow(0), false);
        check.due("of ARRAYS it is 7 deep", isArrayBelow(1), true);
        check.due("for areAll() it is 8 deep: it cannot be", isCovered(0), true);
        check.due("for areAll() it is 7 deep: it can be", isCovered(1), false);
        BoundWright x = new BoundWright();
        int n = x.kind(IN, NONE, false);
        int c = x.kind(NONE, NONE, false);
        int type = x.of(c, 0, 0);
        int of = x.of(n, exact(type), 0);
        x.extend(c, x.of(n, exact(of), 0));
        check.due("without an end", x.isBelow(type, of), false);
        check.due("and its join", x.join(type, of), codeOf(x, x.of(n, ANY, 0)));
    }

    // ---- promise 11

    private void joinPlain() {
        BoundWright x = new BoundWright();
        int low = x.of(x.kind(NONE, NONE, false), 0, 0);
        join("INT and INT", x, INT, INT, 1);
        join("INT and NULL: BOX", x, INT, NULL, 51);
        join("INT and OBJECT", x, INT, OBJECT, 50);
        join("INT and BOX", x, INT, BOX, 51);
        join("INT and VARIABLE", x, INT, VARIABLE, 50);
        join("INT and another class", x, INT, low, 50);
        join("NULL and NULL", x, NULL, NULL, 2);
        join("NULL and VARIABLE", x, NULL, VARIABLE, 3);
        join("NULL and a class", x, NULL, low, 52);
        join("VARIABLE and BOX", x, VARIABLE, BOX, 50);
        join("BOX and a class", x, BOX, low, 50);
        join("INT and an ARRAY", x, INT, x.array(INT), 50);
    }

    private void joinOfBoundsAndArrays() {
        BoundWright x = new BoundWright();
        int top = x.kind(NONE, NONE, false);
        int left = x.kind(NONE, NONE, false);
        int right = x.kind(NONE, NONE, false);
        int pair = x.kind(NEITHER, NEITHER, false);
        int topType = x.of(top, 0, 0);
        int leftType = x.of(left, 0, 0);
        int rightType = x.of(right, 0, 0);
        x.extend(left, topType);
        x.extend(right, topType);
        int first = x.parameter(pair, 0);
        int second = x.parameter(pair, 1);
        join("two PARAMETERS, of OBJECT", x, first, second, 50);
        x.bound(pair, 0, leftType);
        x.bound(pair, 1, rightType);
        join("two PARAMETERS", x, first, second, 50 + top);
        join("a PARAMETER and a class", x, first, rightType, 50 + top);
        join("a PARAMETER and its BOUND", x, first, leftType, 50 + left);
        join("a PARAMETER and NULL", x, first, NULL, 10 + 2 * pair);
        join("a PARAMETER and INT", x, first, INT, 50);
        x.bound(pair, 1, BOX);
        join("a PARAMETER of BOX and INT", x, second, INT, 51);
        int tops = x.array(topType);
        int lefts = x.array(leftType);
        int rights = x.array(rightType);
        int ints = x.array(INT);
        join("ARRAYS", x, lefts, rights, codeOf(x, tops));
        join("ARRAYS, one below", x, lefts, tops, codeOf(x, tops));
        join("an ARRAY of INT and another", x, ints, lefts, 50);
        join("ARRAYS of INT", x, ints, ints, codeOf(x, ints));
        join("ARRAYS of ARRAYS", x, x.array(lefts), x.array(rights), codeOf(x, x.array(tops)));
        join("ARRAYS of ARRAYS, one of INT", x, x.array(ints), x.array(lefts), codeOf(x, x.array(OBJECT)));
        join("an ARRAY and a class", x, lefts, leftType, 50);
        join("ARRAYS of PARAMETERS", x, x.array(first), rights, codeOf(x, tops));
    }

    private void joinOfClasses() {
        BoundWright x = new BoundWright();
        int second = x.kind(NONE, NONE, false);
        int first = x.kind(NONE, NONE, false);
        int upper = x.kind(NONE, NONE, false);
        int one = x.kind(NONE, NONE, false);
        int other = x.kind(NONE, NONE, false);
        int oneType = x.of(one, 0, 0);
        int otherType = x.of(other, 0, 0);
        join("OBJECT", x, oneType, otherType, 50);
        x.extend(one, x.of(first, 0, 0));
        x.extend(other, x.of(first, 0, 0));
        join("one that both extend", x, oneType, otherType, 50 + first);
        x.extend(one, x.of(second, 0, 0));
        x.extend(other, x.of(second, 0, 0));
        join("of two the one with the smallest number", x, oneType, otherType, 50 + second);
        x.extend(upper, x.of(second, 0, 0));
        join("still", x, oneType, otherType, 50 + second);
        x.extend(one, x.of(upper, 0, 0));
        x.extend(other, x.of(upper, 0, 0));
        join("one that is above another is none", x, oneType, otherType, 50 + first);
        join("one is above the other", x, oneType, x.of(upper, 0, 0), 50 + upper);
    }

    private void joinOfArguments() {
        BoundWright x = new BoundWright();
        int list = x.kind(NEITHER, NONE, false);
        int sink = x.kind(IN, NONE, false);
        int source = x.kind(OUT, NONE, false);
        int left = x.kind(NONE, NONE, false);
        int low = x.kind(NEITHER, NONE, false);
        int leftType = x.of(left, 0, 0);
        int ofBox = x.of(list, exact(BOX), 0);
        int ofLeft = x.of(list, exact(leftType), 0);
        int outOfObject = x.of(list, out(OBJECT), 0);
        int ofAny = x.of(list, ANY, 0);
        join("EXACT ones", x, ofBox, ofLeft, codeOf(x, outOfObject));
        join("EXACT and OUT", x, ofBox, x.of(list, out(leftType), 0), codeOf(x, outOfObject));
        join("EXACT and IN", x, ofBox, x.of(list, in(leftType), 0), codeOf(x, ofAny));
        join("EXACT and ANY", x, ofBox, ofAny, codeOf(x, ofAny));
        join("IN of the parameter", x, x.of(sink, exact(BOX), 0), x.of(sink, exact(leftType), 0),
                codeOf(x, x.of(sink, ANY, 0)));
        join("OUT of the parameter", x, x.of(source, exact(BOX), 0), x.of(source, exact(leftType), 0),
                codeOf(x, x.of(source, out(OBJECT), 0)));
        int nested = x.of(list, out(ofAny), 0);
        join("ANY in one that is asked for another", x, x.of(list, exact(ofBox), 0), x.of(list, exact(ofLeft), 0),
                codeOf(x, nested));
        join("over ARRAYS", x, x.of(list, exact(x.array(ofBox)), 0), x.of(list, exact(x.array(ofLeft)), 0),
                codeOf(x, x.of(list, out(x.array(ofAny)), 0)));
        int parameter = x.parameter(low, 0);
        x.bound(low, 0, ofLeft);
        join("over BOUNDS", x, x.of(list, exact(parameter), 0), x.of(list, exact(ofBox), 0), codeOf(x, nested));
        join("over BOUNDS, not inside", x, parameter, ofBox, codeOf(x, outOfObject));
        int lowOfAny = x.of(low, ANY, 0);
        x.extend(low, x.of(list, exact(parameter), 0));
        join("both as the class above", x, x.of(low, exact(BOX), 0), ofLeft, codeOf(x, outOfObject));
        join("the same as the class above, ANY", x, lowOfAny, ofLeft, codeOf(x, ofAny));
    }

    // ---- promise 12

    private void asPuts() {
        BoundWright x = new BoundWright();
        int list = x.kind(NEITHER, NONE, false);
        int pair = x.kind(NEITHER, NEITHER, false);
        int low = x.kind(NEITHER, NONE, false);
        int first = x.parameter(pair, 0);
        int second = x.parameter(pair, 1);
        int element = x.parameter(low, 0);
        int ofBoxes = x.of(list, out(x.array(BOX)), 0);
        x.extend(pair, x.of(list, exact(second), 0));
        x.extend(low, x.of(pair, exact(ofBoxes), exact(element)));
        int[] arguments = {exact(BOX), out(BOX), in(BOX), ANY, exact(element), out(first)};
        for (int argument : arguments) {
            int type = x.of(low, argument, 0);
            check.due("as itself", x.as(type, low), codeOf(x, type));
            check.due("as pair, " + argument, x.as(type, pair), codeOf(x, x.of(pair, exact(ofBoxes), argument)));
            check.due("as list, " + argument, x.as(type, list), codeOf(x, x.of(list, argument, 0)));
            check.due("as OBJECT", x.as(type, 0), 50);
            check.due("as BOX", x.as(type, 1), NONE);
        }
        check.due("one above as one below", x.as(ofBoxes, pair), NONE);
        for (int type : new int[] {INT, NULL, VARIABLE, first, x.array(BOX)}) {
            check.due("no type of a class, " + type, x.as(type, 0), NONE);
        }
        check.due("OBJECT as OBJECT", x.as(OBJECT, 0), 50);
        check.due("BOX as OBJECT", x.as(BOX, 0), 50);
        check.due("OBJECT as BOX", x.as(OBJECT, 1), NONE);
    }

    private void asGoesTheFirstWay() {
        BoundWright x = new BoundWright();
        int list = x.kind(NEITHER, NONE, false);
        int one = x.kind(NONE, NONE, false);
        int other = x.kind(NONE, NONE, false);
        int low = x.kind(NONE, NONE, false);
        int ofBox = x.of(list, exact(BOX), 0);
        int ofAny = x.of(list, ANY, 0);
        int lowType = x.of(low, 0, 0);
        x.extend(low, x.of(other, 0, 0));
        x.extend(low, x.of(one, 0, 0));
        x.extend(one, ofBox);
        check.due("the only way", x.as(lowType, list), codeOf(x, ofBox));
        x.extend(other, ofAny);
        check.due("the way that was told first", x.as(lowType, list), codeOf(x, ofAny));
        check.due("and so BELOW", x.isBelow(lowType, ofBox), false);
        x.extend(low, ofBox);
        check.due("not the shortest one", x.as(lowType, list), codeOf(x, ofAny));
    }

    // ---- promise 13

    private void areAllOfSealed() {
        BoundWright x = new BoundWright();
        int shape = x.kind(NONE, NONE, true);
        int round = x.kind(NONE, NONE, true);
        int square = x.kind(NONE, NONE, false);
        int disc = x.kind(NONE, NONE, false);
        int empty = x.kind(NONE, NONE, true);
        int shapeType = x.of(shape, 0, 0);
        int roundType = x.of(round, 0, 0);
        x.extend(round, shapeType);
        x.extend(square, shapeType);
        x.extend(disc, roundType);
        check.due("itself", x.areAll(shapeType, 1 << shape), true);
        check.due("one above", x.areAll(roundType, 1 << shape), true);
        check.due("OBJECT above", x.areAll(roundType, 1), true);
        check.due("those that extend it", x.areAll(shapeType, (1 << round) + (1 << square)), true);
        check.due("one of them by what extends that", x.areAll(shapeType, (1 << disc) + (1 << square)), true);
        check.due("not all", x.areAll(shapeType, 1 << square), false);
        check.due("not all, the other", x.areAll(shapeType, 1 << disc), false);
        check.due("none", x.areAll(shapeType, 0), false);
        check.due("not SEALED", x.areAll(x.of(square, 0, 0), 1 << disc), false);
        check.due("SEALED, and none extends it", x.areAll(x.of(empty, 0, 0), 0), true);
        x.extend(empty, shapeType);
        check.due("what extends it is SEALED, and none extends that", x.areAll(shapeType, (1 << disc) + (1 << square)),
                true);
        check.due("all", x.areAll(shapeType, (1 << 7) - 1), true);
        check.due("OBJECT", x.areAll(OBJECT, (1 << 7) - 2), false);
        for (int type : new int[] {INT, NULL, VARIABLE, x.array(shapeType)}) {
            check.due("no type of a class, " + type, x.areAll(type, (1 << 7) - 1), false);
        }
    }

    private void areAllOfWhatCannotBe() {
        BoundWright x = new BoundWright();
        int top = x.kind(NEITHER, NONE, true);
        int boxes = x.kind(NONE, NONE, false);
        int each = x.kind(NEITHER, NONE, false);
        int anys = x.kind(NONE, NONE, false);
        x.extend(boxes, x.of(top, exact(BOX), 0));
        x.extend(each, x.of(top, exact(x.parameter(each, 0)), 0));
        int topOfAny = x.of(top, ANY, 0);
        int topOfObject = x.of(top, exact(OBJECT), 0);
        int topOfBox = x.of(top, exact(BOX), 0);
        check.due("ANY: each can be", x.areAll(topOfAny, 1 << each), false);
        check.due("one cannot be", x.areAll(topOfObject, 1 << each), true);
        check.due("one can be", x.areAll(topOfBox, 1 << each), false);
        check.due("one with a PARAMETER always can be", x.areAll(topOfObject, 1 << boxes), false);
        check.due("OUT of OBJECT", x.areAll(x.of(top, out(OBJECT), 0), 1 << each), false);
        check.due("IN of BOX", x.areAll(x.of(top, in(BOX), 0), 1 << each), false);
        check.due("IN of OBJECT", x.areAll(x.of(top, in(OBJECT), 0), 1 << each), true);
        x.extend(anys, topOfAny);
        check.due("ANY is not within EXACT", x.areAll(topOfBox, (1 << each) + (1 << boxes)), true);
        check.due("ANY is within ANY", x.areAll(topOfAny, (1 << each) + (1 << boxes)), false);
        int middle = x.kind(NEITHER, NONE, true);
        int lows = x.kind(NONE, NONE, false);
        x.extend(middle, x.of(top, exact(x.parameter(middle, 0)), 0));
        x.extend(lows, x.of(middle, exact(BOX), 0));
        int all = (1 << each) + (1 << boxes) + (1 << anys);
        check.due("further on each counts", x.areAll(topOfObject, all), false);
        check.due("asked about that it cannot be", x.areAll(x.of(middle, exact(OBJECT), 0), all), true);
        check.due("with it", x.areAll(topOfObject, all + (1 << lows)), true);
    }

    // ---- wrong inputs

    private void refusals() {
        BoundWright x = new BoundWright();
        for (int none : NO_TYPE) {
            check.bounds("ofType(" + none + ", 0)", x, () -> x.ofType(none, 0));
            check.bounds("ofType(" + none + ", 6) is refused for the type first", x, () -> x.ofType(none, 6));
            check.bounds("isBelow(" + none + ", 2)", x, () -> x.isBelow(none, OBJECT));
            check.bounds("isBelow(2, " + none + ")", x, () -> x.isBelow(OBJECT, none));
            check.bounds("join(" + none + ", 2)", x, () -> x.join(none, OBJECT));
            check.bounds("join(2, " + none + ")", x, () -> x.join(OBJECT, none));
            check.bounds("as(" + none + ", 0)", x, () -> x.as(none, 0));
            check.bounds("areAll(" + none + ", 1)", x, () -> x.areAll(none, 1));
            check.bounds("areAll(" + none + ", -1) is refused for the type first", x, () -> x.areAll(none, -1));
        }
        for (int none : new int[] {-1, 2, 14, MOST, LEAST}) {
            check.bounds("as(2, " + none + ")", x, () -> x.as(OBJECT, none));
            check.bounds("as(0, " + none + ")", x, () -> x.as(INT, none));
        }
        for (int wrong : new int[] {-1, 6, MOST, LEAST}) {
            check.argument("ofType(2, " + wrong + ")", x, () -> x.ofType(OBJECT, wrong));
        }
        for (int wrong : new int[] {-1, 4, 5, 1 << 14, MOST, LEAST}) {
            check.argument("areAll(2, " + wrong + ")", x, () -> x.areAll(OBJECT, wrong));
            check.argument("areAll(0, " + wrong + ")", x, () -> x.areAll(INT, wrong));
        }
        check.due("all classes that there are", x.areAll(OBJECT, 3), true);
    }
}
