/**
 * Terms, section 1 (and what section 2 says of what a class EXTENDS and of BOUNDS), and promises 1 to 5: one test for
 * each sentence that names a boundary case.
 */
final class EdgesOfClassesTest extends Promises {
    public static void main(String[] arguments) {
        EdgesOfClassesTest test = new EdgesOfClassesTest();
        test.atMostFourteen();
        test.objectAndBox();
        test.noneToTwoParameters();
        test.variances();
        test.secondWithoutFirst();
        test.boundAtFirst();
        test.boundOfNoGreaterNumber();
        test.boundIsSimple();
        test.boundHasOwnParametersOnly();
        test.boundReturnsTheOneBefore();
        test.extendsOfSmallerNumberOnly();
        test.extendsSimpleOnes();
        test.extendsUpToThree();
        test.extendsNothingTold();
        test.extendsOneOfAClassOnce();
        test.objectAndBoxExtendNothing();
        test.aboveWithoutEnd();
        test.setsOfClasses();
        test.countsOfMethods();
        test.check.end();
    }

    /** "CLASSES: at most 14, numbered from 0", "Throws IllegalStateException if there are 14". */
    private void atMostFourteen() {
        BoundWright x = new BoundWright();
        for (int kind = 2; kind < KINDS - 1; kind++) {
            check.due("the number of class " + kind, x.kind(NONE, NONE, kind % 2 == 0), kind);
        }
        check.due("13 are there", x.many(0), 13);
        check.bounds("number 13 is not there yet, ofKind()", x, () -> x.ofKind(13, 0));
        check.bounds("number 13 is not there yet, of()", x, () -> x.of(13, ANY, ANY));
        check.argument("nor in a set", x, () -> x.areAll(OBJECT, 1 << 13));
        check.due("the 14th", x.kind(OUT, IN, true), 13);
        check.due("14 are there", x.many(0), 14);
        check.due("it has its parameters", x.ofKind(13, 0), 2);
        check.due("in a set", x.areAll(x.of(13, ANY, ANY), 1 << 13), true);
        check.state("a 15th without parameters", x, () -> x.kind(NONE, NONE, false));
        check.state("a 15th with one", x, () -> x.kind(NEITHER, NONE, true));
        check.state("a 15th with two", x, () -> x.kind(IN, OUT, true));
        check.due("14 are still there", x.many(0), 14);
        check.due("SEALED are those that were told", x.many(5), 6 + 1);
        check.bounds("number 14 is not there", x, () -> x.ofKind(14, 0));
    }

    /** "0 is OBJECT, 1 is BOX", "(OBJECT and BOX: none)", "it can be SEALED (these two are not)". */
    private void objectAndBox() {
        BoundWright x = new BoundWright();
        check.due("how many there are", x.many(0), 2);
        check.due("the type of 0 is OBJECT", x.of(0, 0, 0), OBJECT);
        check.due("the type of 1 is BOX", x.of(1, 0, 0), BOX);
        check.bounds("class -1", x, () -> x.of(-1, 0, 0));
        check.bounds("class 2", x, () -> x.of(2, 0, 0));
        for (int kind = 0; kind < 2; kind++) {
            int which = kind;
            check.due("parameters of " + kind, x.ofKind(kind, 0), 0);
            check.bounds("parameter(" + kind + ", 0)", x, () -> x.parameter(which, 0));
            check.bounds("bound(" + kind + ", 0, OBJECT)", x, () -> x.bound(which, 0, OBJECT));
            check.bounds("pairsWith(" + kind + ", 0, 0)", x, () -> x.pairsWith(which, 0, 0));
        }
        check.due("none is SEALED", x.many(5), 0);
        check.due("OBJECT is not all that extends it", x.areAll(OBJECT, 1 << 1), false);
        check.due("BOX, that none extends, is not SEALED", x.areAll(BOX, 0), false);
    }

    /** "Each has 0 to 2 PARAMETERS, numbered from 0". */
    private void noneToTwoParameters() {
        BoundWright x = new BoundWright();
        int[] kinds = {x.kind(NONE, NONE, false), x.kind(NEITHER, NONE, false), x.kind(NEITHER, NEITHER, false)};
        for (int count = 0; count <= 2; count++) {
            int kind = kinds[count];
            check.due("ofKind(.., 0) of one with " + count, x.ofKind(kind, 0), count);
            for (int parameter = 0; parameter < count; parameter++) {
                check.due("bound(.., " + parameter + ") of one with " + count,
                        x.bound(kind, parameter, OBJECT), OBJECT);
                check.due("pairsWith(.., " + parameter + ") of one with " + count,
                        x.pairsWith(kind, parameter, NEITHER), x.many(6));
                check.due("parameter(.., " + parameter + ") of one with " + count,
                        codeOf(x, x.parameter(kind, parameter)), codeOfParameter(kind, parameter));
            }
            for (int none : new int[] {-1, count, 2, MOST, LEAST}) {
                check.bounds("bound(.., " + none + ") of one with " + count, x, () -> x.bound(kind, none, OBJECT));
                check.bounds("parameter(.., " + none + ") of one with " + count, x, () -> x.parameter(kind, none));
                check.bounds("pairsWith(.., " + none + ") of one with " + count, x, () -> x.pairsWith(kind, none, 0));
            }
        }
    }

    /** "each with a VARIANCE, NEITHER (0), OUT (1) or IN (2)", "if first or second is not NONE, 0, 1 or 2". */
    private void variances() {
        for (int first = NONE; first <= 3; first++) {
            for (int second = NONE; second <= 3; second++) {
                BoundWright x = new BoundWright();
                int one = first;
                int other = second;
                if (first == 3 || second == 3 || (first == NONE && second != NONE)) {
                    check.argument("kind(" + first + ", " + second + ")", x, () -> x.kind(one, other, false));
                } else {
                    check.due("kind(" + first + ", " + second + ")", x.kind(first, second, false), 2);
                    check.due("its parameters", x.ofKind(2, 0), (first == NONE ? 0 : 1) + (second == NONE ? 0 : 1));
                }
            }
        }
        BoundWright x = new BoundWright();
        for (int wrong : new int[] {-2, 3, MOST, LEAST}) {
            check.argument("kind(" + wrong + ", 0)", x, () -> x.kind(wrong, NEITHER, false));
            check.argument("kind(2, " + wrong + ")", x, () -> x.kind(IN, wrong, false));
            check.argument("kind(-1, " + wrong + ")", x, () -> x.kind(NONE, wrong, false));
        }
    }

    /** "or there is a second one without a first one", and that first of all, when there are 14, too. */
    private void secondWithoutFirst() {
        BoundWright x = new BoundWright();
        fillKinds(x, 13);
        for (int second = NEITHER; second <= IN; second++) {
            int which = second;
            check.argument("with 13 there, kind(-1, " + second + ")", x, () -> x.kind(NONE, which, true));
        }
        x.kind(NONE, NONE, false);
        for (int second = NEITHER; second <= IN; second++) {
            int which = second;
            check.argument("with 14 there, kind(-1, " + second + ")", x, () -> x.kind(NONE, which, true));
        }
        check.argument("with 14 there, kind(3, -1)", x, () -> x.kind(3, NONE, true));
        check.argument("with 14 there, kind(0, -2)", x, () -> x.kind(0, -2, true));
    }

    /** "and a BOUND (OBJECT, at first)". */
    private void boundAtFirst() {
        BoundWright x = new BoundWright();
        fillKinds(x, 13);
        int last = x.kind(IN, OUT, false);
        for (int parameter = 0; parameter < 2; parameter++) {
            int type = x.parameter(last, parameter);
            check.due("ERASED of parameter " + parameter, x.ofType(type, 1), 0);
            check.due("below BOX, parameter " + parameter, x.isBelow(type, BOX), false);
            check.due("the one before, parameter " + parameter, x.bound(last, parameter, BOX), OBJECT);
            check.due("ERASED then, parameter " + parameter, x.ofType(type, 1), 1);
        }
        check.due("that of the first one stays by itself", x.bound(last, 0, OBJECT), BOX);
        check.due("that of the second one, too", x.bound(last, 1, OBJECT), BOX);
    }

    /** "BOUNDS of a CLASS are not ones of a CLASS with a greater number than it", "a number not above it". */
    private void boundOfNoGreaterNumber() {
        BoundWright x = new BoundWright();
        int smaller = plainType(x);
        int kind = x.kind(NEITHER, NONE, false);
        int own = x.of(kind, ANY, 0);
        int greater = plainType(x);
        fillKinds(x, KINDS);
        int greatest = x.of(KINDS - 1, 0, 0);
        check.due("one of a smaller number", x.bound(kind, 0, smaller), OBJECT);
        check.due("one of its own number", x.bound(kind, 0, own), smaller);
        check.argument("one of the next number", x, () -> x.bound(kind, 0, greater));
        check.argument("one of the greatest number", x, () -> x.bound(kind, 0, greatest));
        check.due("BOX is one", x.bound(kind, 0, BOX), own);
        int ofGreatest = x.of(kind, exact(greatest), 0);
        check.due("a greater one as an ARGUMENT is none of that class", x.bound(kind, 0, ofGreatest), BOX);
    }

    /** "SIMPLE, if each of its ARGUMENTS is CLOSED (ANY too), or just a PARAMETER, EXACT". */
    private void boundIsSimple() {
        BoundWright x = new BoundWright();
        int pair = x.kind(NEITHER, NEITHER, false);
        int first = x.parameter(pair, 0);
        int closed = x.of(pair, ANY, exact(x.array(BOX)));
        int[] simple = {ANY, exact(OBJECT), out(BOX), in(closed), exact(closed), exact(first)};
        int[] others = {out(first), in(first), exact(x.array(first)), exact(VARIABLE), in(VARIABLE),
            exact(x.of(pair, exact(first), ANY))};
        int before = OBJECT;
        for (int each : simple) {
            int inFirst = x.of(pair, each, exact(first));
            int inSecond = x.of(pair, exact(BOX), each);
            check.due("first " + each, x.bound(pair, 1, inFirst), before);
            check.due("second " + each, x.bound(pair, 1, inSecond), inFirst);
            before = inSecond;
        }
        for (int each : others) {
            int inFirst = x.of(pair, each, exact(BOX));
            check.argument("first " + each, x, () -> x.bound(pair, 0, inFirst));
            check.argument("first " + each + ", to extend", x, () -> x.extend(pair, inFirst));
        }
        for (int k = 0; k < others.length - 1; k++) {
            int inSecond = x.of(pair, ANY, others[k]);
            check.argument("second " + others[k], x, () -> x.bound(pair, 0, inSecond));
        }
        check.due("nothing was set", x.bound(pair, 0, OBJECT), OBJECT);
    }

    /** "with no PARAMETERS but its own". */
    private void boundHasOwnParametersOnly() {
        BoundWright x = new BoundWright();
        int list = x.kind(NEITHER, NONE, false);
        int one = x.kind(NEITHER, NEITHER, false);
        int other = x.kind(NEITHER, NONE, false);
        int ofOne = x.of(list, exact(x.parameter(one, 1)), 0);
        int ofOther = x.of(list, exact(x.parameter(other, 0)), 0);
        int ofList = x.of(list, exact(x.parameter(list, 0)), 0);
        check.due("its own, to the other parameter", x.bound(one, 0, ofOne), OBJECT);
        check.due("its own, to itself", x.bound(one, 1, ofOne), OBJECT);
        check.due("its own, extended", x.extend(one, ofOne), 1);
        for (int wrong : new int[] {ofOther, ofList}) {
            check.argument("of another class, bound()", x, () -> x.bound(one, 0, wrong));
            check.argument("of another class, extend()", x, () -> x.extend(one, wrong));
        }
        check.argument("of the class before, bound()", x, () -> x.bound(other, 0, ofOne));
        check.due("the last one's own", x.bound(other, 0, ofOther), OBJECT);
    }

    /** "Returns the one before", also if it is told again; "if there is no such CLASS, PARAMETER, or TYPE". */
    private void boundReturnsTheOneBefore() {
        BoundWright x = new BoundWright();
        int list = x.kind(NEITHER, NONE, false);
        int last = x.of(list, ANY, 0);
        check.due("the last type that there is", x.bound(list, 0, last), OBJECT);
        check.due("told again", x.bound(list, 0, last), last);
        for (int none : new int[] {last + 1, NONE, MOST, LEAST}) {
            check.bounds("no type " + none, x, () -> x.bound(list, 0, none));
            check.bounds("no type " + none + ", of OBJECT", x, () -> x.bound(0, 0, none));
        }
        check.bounds("no class, and INT", x, () -> x.bound(list + 1, 0, INT));
        check.bounds("no parameter, and INT", x, () -> x.bound(list, 1, INT));
        check.argument("the first type, INT", x, () -> x.bound(list, 0, INT));
        check.due("still the last one", x.bound(list, 0, OBJECT), last);
    }

    /** "type is no TYPE of a CLASS with a smaller number", "or is BOX". */
    private void extendsOfSmallerNumberOnly() {
        BoundWright x = new BoundWright();
        int first = x.kind(NONE, NONE, false);
        int own = x.of(first, 0, 0);
        int next = x.kind(NONE, NONE, false);
        int nexts = x.of(next, 0, 0);
        check.argument("BOX has a smaller number, but is BOX", x, () -> x.extend(first, BOX));
        check.argument("its own number", x, () -> x.extend(first, own));
        check.argument("the next number", x, () -> x.extend(first, nexts));
        check.due("the smallest number", x.extend(first, OBJECT), 1);
        check.due("the number before", x.extend(next, own), 1);
        check.argument("BOX, once there is one", x, () -> x.extend(next, BOX));
        fillKinds(x, KINDS);
        int last = x.of(13, 0, 0);
        check.argument("the 14th class, its own", x, () -> x.extend(13, last));
        check.argument("the 13th class, the next number", x, () -> x.extend(12, last));
        check.due("the 14th class", x.extend(13, nexts), 1);
    }

    /** What a class EXTENDS is SIMPLE: the ARGUMENTS as with BOUNDS; an ARRAY, a PARAMETER and the rest are none. */
    private void extendsSimpleOnes() {
        BoundWright x = new BoundWright();
        int pair = x.kind(NEITHER, NEITHER, false);
        int low = x.kind(NEITHER, NEITHER, false);
        int first = x.parameter(low, 0);
        int second = x.parameter(low, 1);
        int deep = x.of(pair, ANY, in(x.array(x.array(BOX))));
        int[] wrong = {INT, NULL, VARIABLE, first, x.array(OBJECT), x.of(pair, exact(first), out(second)),
            x.of(pair, in(first), exact(second)), x.of(pair, exact(x.array(first)), ANY),
            x.of(pair, ANY, exact(VARIABLE))};
        for (int each : wrong) {
            check.argument("type " + each, x, () -> x.extend(low, each));
        }
        check.due("none was told", x.ofKind(low, 3) + x.ofKind(pair, 3), 0);
        check.due("both parameters, turned", x.extend(low, x.of(pair, exact(second), exact(first))), 1);
        int last = x.kind(NEITHER, NONE, false);
        check.due("the same parameter twice", x.extend(last, x.of(pair, exact(x.parameter(last, 0)),
                exact(x.parameter(last, 0)))), 1);
        int closed = x.kind(NONE, NONE, false);
        check.due("what is 4 DEEP and CLOSED", x.extend(closed, deep), 1);
    }

    /** "It EXTENDS up to 3 TYPES", "if it EXTENDS 3 that were told". */
    private void extendsUpToThree() {
        BoundWright x = new BoundWright();
        int[] types = new int[5];
        for (int k = 0; k < types.length; k++) {
            types[k] = plainType(x);
        }
        int low = x.kind(NONE, NONE, false);
        int own = x.of(low, 0, 0);
        for (int k = 0; k < 3; k++) {
            check.due("how many after " + (k + 1), x.extend(low, types[k]), k + 1);
            check.due("ofKind(.., 1) after " + (k + 1), x.ofKind(low, 1), k + 1);
        }
        check.state("a fourth one", x, () -> x.extend(low, types[3]));
        check.state("OBJECT as a fourth one", x, () -> x.extend(low, OBJECT));
        check.state("one that is there as a fourth one", x, () -> x.extend(low, types[0]));
        check.argument("itself as a fourth one is refused for that first", x, () -> x.extend(low, own));
        check.bounds("no type as a fourth one is refused for that first", x, () -> x.extend(low, TYPES));
        check.due("three are above, and OBJECT", x.ofKind(low, 2), 1 + (1 << 2) + (1 << 3) + (1 << 4));
    }

    /**
     * "(BOX, and one that was told nothing else: OBJECT; OBJECT: none)", "(instead of OBJECT, if it is the first one)".
     */
    private void extendsNothingTold() {
        BoundWright x = new BoundWright();
        int upper = x.kind(NONE, NONE, false);
        int low = x.kind(NONE, NONE, false);
        check.due("OBJECT extends none", x.ofKind(0, 1), 0);
        check.due("BOX extends one", x.ofKind(1, 1), 1);
        check.due("one that was told nothing extends one", x.ofKind(low, 1), 1);
        check.due("all extend OBJECT", x.ofKind(0, 3), (1 << 1) + (1 << upper) + (1 << low));
        check.due("the first one is instead of it", x.extend(low, x.of(upper, 0, 0)), 1);
        check.due("OBJECT is not extended by it then", x.ofKind(0, 3), (1 << 1) + (1 << upper));
        check.due("OBJECT told as the second one counts", x.extend(low, OBJECT), 2);
        check.due("OBJECT is extended by it again", x.ofKind(0, 3), (1 << 1) + (1 << upper) + (1 << low));
        check.due("OBJECT told as the first one", x.extend(upper, OBJECT), 1);
        check.due("is one", x.ofKind(upper, 1), 1);
    }

    /** "or one that was told of that CLASS": OBJECT only if it was told. */
    private void extendsOneOfAClassOnce() {
        BoundWright x = new BoundWright();
        int list = x.kind(NEITHER, NONE, false);
        int low = x.kind(NONE, NONE, false);
        int any = x.of(list, ANY, 0);
        int ofBox = x.of(list, exact(BOX), 0);
        x.extend(low, any);
        check.state("the same one", x, () -> x.extend(low, any));
        check.state("another one of that class", x, () -> x.extend(low, ofBox));
        check.due("OBJECT was not told yet", x.extend(low, OBJECT), 2);
        check.state("OBJECT was told", x, () -> x.extend(low, OBJECT));
        check.due("two are there", x.ofKind(low, 1), 2);
        check.due("another class may", x.extend(x.kind(NONE, NONE, false), ofBox), 1);
    }

    /** "Throws IllegalArgumentException if kind is OBJECT or BOX": behind no such TYPE, ahead of all else. */
    private void objectAndBoxExtendNothing() {
        BoundWright x = new BoundWright();
        int type = plainType(x);
        for (int kind = 0; kind < 2; kind++) {
            int which = kind;
            check.argument("OBJECT for " + kind, x, () -> x.extend(which, OBJECT));
            check.argument("BOX for " + kind, x, () -> x.extend(which, BOX));
            check.argument("a greater one for " + kind, x, () -> x.extend(which, type));
            check.bounds("no type for " + kind, x, () -> x.extend(which, type + 1));
        }
        check.due("the first class that may", x.extend(2, OBJECT), 1);
    }

    /** "A CLASS is ABOVE another one, if that EXTENDS a TYPE of it, or of one that it is ABOVE": over 12 classes. */
    private void aboveWithoutEnd() {
        BoundWright x = new BoundWright();
        for (int kind = 2; kind < KINDS; kind++) {
            x.kind(NEITHER, NONE, false);
            if (kind > 2) {
                x.extend(kind, x.of(kind - 1, exact(x.parameter(kind, 0)), 0));
            }
        }
        for (int kind = 2; kind < KINDS; kind++) {
            check.due("above " + kind, x.ofKind(kind, 2), (1 << kind) - 1 - (1 << 1));
            check.due("extend " + kind, x.ofKind(kind, 3), kind == 13 ? 0 : 1 << kind + 1);
        }
        int last = x.of(13, exact(BOX), 0);
        check.due("the last as the first", x.as(last, 2), codeOfClass(2, codeOfArgument(51, 0)));
        check.due("the last as OBJECT", x.as(last, 0), 50);
        check.due("the last as itself", x.as(last, 13), codeOfClass(13, codeOfArgument(51, 0)));
        check.due("the last as BOX", x.as(last, 1), NONE);
        check.due("none is above itself", x.ofKind(13, 2) >> 13, 0);
    }

    /** "Sets are told as numbers: the sum of 2^k for each k in them": none, one, and all classes. */
    private void setsOfClasses() {
        BoundWright x = new BoundWright();
        fillKinds(x, KINDS);
        check.due("above OBJECT: none", x.ofKind(0, 2), 0);
        check.due("above BOX: OBJECT", x.ofKind(1, 2), 1);
        check.due("those that extend BOX: none", x.ofKind(1, 3), 0);
        check.due("those that extend OBJECT: all but itself", x.ofKind(0, 3), (1 << KINDS) - 2);
        for (int wrong : new int[] {-1, 8, MOST, LEAST}) {
            check.argument("ofKind(13, " + wrong + ")", x, () -> x.ofKind(13, wrong));
            check.bounds("ofKind(14, " + wrong + ")", x, () -> x.ofKind(KINDS, wrong));
        }
    }

    /** "4 how many METHODS of it, 5 how many MEMBERS, 6 how many BRIDGES, 7 how many FAULTS": none, and 20. */
    private void countsOfMethods() {
        BoundWright x = new BoundWright();
        int last = x.kind(NEITHER, NONE, false);
        int[] before = {1, 1, 1, 0, 0, 0, 0, 0};
        int[] after = {1, 1, 1, 0, METHODS, METHODS, 0, METHODS - 1};
        for (int what = 0; what < before.length; what++) {
            check.due("none, ofKind(2, " + what + ")", x.ofKind(last, what), before[what]);
        }
        int element = x.parameter(last, 0);
        for (int method = 0; method < METHODS; method++) {
            x.method(last, 7, element, element, element, element, false);
        }
        for (int what = 0; what < after.length; what++) {
            check.due("20, ofKind(2, " + what + ")", x.ofKind(last, what), after[what]);
        }
        check.due("OBJECT has none of them", x.ofKind(0, 4) + x.ofKind(0, 5), 0);
    }
}
