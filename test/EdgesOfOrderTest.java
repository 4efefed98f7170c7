/**
 * Terms, section 3, what section 2 says of AS, and promises 10, 11, 13 and 22 (and of 20 the pairs): one test for each
 * sentence that names a boundary case.
 */
final class EdgesOfOrderTest extends Promises {
    public static void main(String[] arguments) {
        EdgesOfOrderTest test = new EdgesOfOrderTest();
        test.belowOfEachSort();
        test.belowOfArraysOfInt();
        test.belowByTheSecondParameter();
        test.belowWantsEachArgument();
        test.withinOutOfObject();
        test.belowAndJoinNeedTypes();
        test.eightDeepWithoutLooking();
        test.joinAsksAnew();
        test.keepsAsksAnew();
        test.callAsksAnew();
        test.faultsAskAnew();
        test.joinOfWhatIsBelowEachOther();
        test.joinOfIntAndNull();
        test.joinOfClassesAboveNoOther();
        test.joinOfModes();
        test.joinInAJoin();
        test.joinOfTwoArguments();
        test.joinIsNotTold();
        test.setsOfAreAll();
        test.areAllOfNone();
        test.areAllFurtherOn();
        test.cannotBeByOneArgument();
        test.cannotBeByWhatItExtends();
        test.cannotBeByItsVariance();
        test.pairsOfAll();
        test.pairsWithEachVariance();
        test.check.end();
    }

    /** "s is BELOW t, if they are the same; if s is NULL, and t not INT; if t is OBJECT, and s not INT; ...". */
    private void belowOfEachSort() {
        BoundWright x = new BoundWright();
        int list = x.kind(NEITHER, NONE, false);
        int parameter = x.parameter(list, 0);
        x.bound(list, 0, BOX);
        x.array(INT);
        x.array(BOX);
        x.array(parameter);
        x.of(list, ANY, 0);
        String[] due = {"1000000000", "0111111111", "0010000000", "0011000000", "0010100000", "0011010000",
            "0010001000", "0010000100", "0010000110", "0010000001"};
        for (int one = 0; one < due.length; one++) {
            for (int other = 0; other < due.length; other++) {
                check.due("isBelow(" + one + ", " + other + ")", x.isBelow(one, other), due[one].charAt(other) == '1');
            }
        }
    }

    /** "if both are ARRAYS, of TYPES that are not INT": in whatever depth; "if they are the same" is enough. */
    private void belowOfArraysOfInt() {
        BoundWright x = new BoundWright();
        int ints = x.array(INT);
        int intses = x.array(ints);
        int boxes = x.array(BOX);
        int boxeses = x.array(boxes);
        int objects = x.array(OBJECT);
        int objectses = x.array(objects);
        check.due("INT[] and itself", x.isBelow(ints, ints), true);
        check.due("INT[] and OBJECT[]", x.isBelow(ints, objects), false);
        check.due("INT[] and BOX[]", x.isBelow(ints, boxes), false);
        check.due("BOX[] and INT[]", x.isBelow(boxes, ints), false);
        check.due("INT[][] and itself", x.isBelow(intses, intses), true);
        check.due("INT[][] and OBJECT[]", x.isBelow(intses, objects), true);
        check.due("INT[][] and OBJECT[][]", x.isBelow(intses, objectses), false);
        check.due("BOX[][] and OBJECT[]", x.isBelow(boxeses, objects), true);
        check.due("BOX[][] and OBJECT[][]", x.isBelow(boxeses, objectses), true);
        check.due("BOX[][] and INT[][]", x.isBelow(boxeses, intses), false);
        check.due("OBJECT[] and BOX[][]", x.isBelow(objects, boxeses), false);
    }

    /** "by the VARIANCE of the PARAMETER": of the second one by its own, whatever that of the first one is. */
    private void belowByTheSecondParameter() {
        for (int variance = NEITHER; variance <= IN; variance++) {
            BoundWright x = new BoundWright();
            int list = x.kind(variance, NONE, false);
            int pair = x.kind((variance + 1) % 3, variance, false);
            int middle = plainType(x);
            int[] arguments = {ANY, exact(middle), out(middle), in(middle), exact(OBJECT), out(OBJECT), in(OBJECT)};
            for (int one : arguments) {
                for (int other : arguments) {
                    boolean due = x.isBelow(x.of(list, one, 0), x.of(list, other, 0));
                    check.due("second, VARIANCE " + variance + ", " + one + " and " + other,
                            x.isBelow(x.of(pair, exact(BOX), one), x.of(pair, exact(BOX), other)), due);
                }
            }
        }
    }

    /** "and each ARGUMENT of s AS the CLASS of t is WITHIN that of t". */
    private void belowWantsEachArgument() {
        BoundWright x = new BoundWright();
        int pair = x.kind(OUT, IN, false);
        int low = x.kind(NEITHER, NEITHER, false);
        x.extend(low, x.of(pair, exact(x.parameter(low, 1)), exact(x.parameter(low, 0))));
        int wanted = x.of(pair, exact(BOX), exact(BOX));
        int[] arguments = {exact(BOX), exact(OBJECT)};
        for (int first : arguments) {
            for (int second : arguments) {
                boolean due = second == exact(BOX);
                check.due("AS pair, " + first + " and " + second, x.isBelow(x.of(low, first, second), wanted), due);
                due = first == exact(BOX);
                check.due("itself, " + first + " and " + second, x.isBelow(x.of(pair, first, second), wanted), due);
            }
        }
        check.due("not the other way", x.isBelow(wanted, x.of(low, ANY, ANY)), false);
    }

    /** "WITHIN u OUT: ...; if u is OBJECT, each", "WITHIN ANY is each", "WITHIN u IN: ... a TYPE that u is BELOW". */
    private void withinOutOfObject() {
        for (int variance = NEITHER; variance <= IN; variance++) {
            BoundWright x = new BoundWright();
            int list = x.kind(variance, NONE, false);
            int any = x.of(list, ANY, 0);
            int outOfObject = x.of(list, out(OBJECT), 0);
            int inOfObject = x.of(list, in(OBJECT), 0);
            int inOfNothing = x.of(list, in(x.array(x.array(INT))), 0);
            int[] each = {any, outOfObject, inOfObject, inOfNothing, x.of(list, exact(VARIABLE), 0),
                x.of(list, out(BOX), 0), x.of(list, in(BOX), 0)};
            for (int type : each) {
                check.due("WITHIN OUT of OBJECT, " + type, x.isBelow(type, outOfObject), true);
                check.due("WITHIN ANY, " + type, x.isBelow(type, any), true);
                check.due("WITHIN IN of OBJECT, " + type, x.isBelow(type, inOfObject), type == inOfObject);
            }
            check.due("OBJECT IN is WITHIN each IN", x.isBelow(inOfObject, inOfNothing), true);
            check.due("ANY is WITHIN no IN", x.isBelow(any, inOfNothing), false);
            check.due("EXACT OBJECT is WITHIN OUT of it", x.isBelow(x.of(list, exact(OBJECT), 0), outOfObject), true);
        }
    }

    /** "Throws IndexOutOfBoundsException if there is no such TYPE": either one, the last one, and the next. */
    private void belowAndJoinNeedTypes() {
        BoundWright x = new BoundWright();
        int last = x.array(INT);
        check.due("the last one is there, isBelow()", x.isBelow(last, last), true);
        check.due("the last one is there, join()", x.join(last, last), 22);
        for (int none : new int[] {-1, last + 1, TYPES, MOST, LEAST}) {
            check.bounds("isBelow(" + none + ", 0)", x, () -> x.isBelow(none, INT));
            check.bounds("isBelow(0, " + none + ")", x, () -> x.isBelow(INT, none));
            check.bounds("isBelow(" + none + ", " + none + ")", x, () -> x.isBelow(none, none));
            check.bounds("join(" + none + ", 0)", x, () -> x.join(none, INT));
            check.bounds("join(0, " + none + ")", x, () -> x.join(INT, none));
        }
    }

    /** "8 deep BELOW is not so, without looking (also if they are the same)": and 7 deep it is looked at. */
    private void eightDeepWithoutLooking() {
        Chain chain = Chain.justBelow();
        check.due("the same, 7 deep", chain.x.isBelow(chain.types[1], chain.ofTypes[2]), true);
        Chain longer = Chain.justNotBelow();
        check.due("the same, 8 deep", longer.x.isBelow(longer.types[0], longer.ofTypes[1]), false);
        check.due("the same, 7 deep in the same chain", longer.x.isBelow(longer.types[1], longer.ofTypes[2]), true);
        int[] ends = {ANY, out(OBJECT)};
        for (int end : ends) {
            Chain open = new Chain(end, NEITHER, 0);
            check.due("ANY and OUT of OBJECT look no deeper", open.x.isBelow(open.types[0], open.ofTypes[1]), true);
        }
        Chain exact = new Chain(exact(BOX), NEITHER, 0);
        check.due("EXACT looks no deeper", exact.x.isBelow(exact.types[0], exact.ofTypes[1]), true);
        Chain outOfBox = new Chain(out(BOX), NEITHER, 0);
        check.due("OUT of BOX looks 8 deep", outOfBox.x.isBelow(outOfBox.types[0], outOfBox.ofTypes[1]), false);
        Chain inOfBox = new Chain(in(BOX), NEITHER, 1);
        check.due("IN of BOX looks 7 deep", inOfBox.x.isBelow(inOfBox.types[1], inOfBox.ofTypes[2]), true);
    }

    /** "All else asks anew, 0 deep": a JOIN of what is in ARRAYS, and of ARGUMENTS. */
    private void joinAsksAnew() {
        Chain chain = Chain.justBelow();
        BoundWright x = chain.x;
        int list = x.kind(NEITHER, NONE, false);
        int one = chain.types[1];
        int other = chain.ofTypes[2];
        check.due("itself", x.join(one, other), codeOf(x, other));
        check.due("the other way round", x.join(other, one), codeOf(x, other));
        int ones = x.array(one);
        int others = x.array(other);
        check.due("ARRAYS are 1 deep", x.isBelow(ones, others), false);
        check.due("the JOIN of ARRAYS", x.join(ones, others), codeOf(x, others));
        check.due("the JOIN of ARGUMENTS", x.join(x.of(list, exact(one), 0), x.of(list, out(other), 0)),
                codeOfClass(list, codeOfArgument(codeOf(x, other), 1)));
        Chain longer = Chain.justNotBelow();
        check.due("8 deep", longer.x.join(longer.types[0], longer.ofTypes[1]), codeOfClass(longer.n, CODE_OF_ANY));
    }

    /** "All else asks anew, 0 deep": KEEPS, in whatever depth. */
    private void keepsAsksAnew() {
        for (int deeper = 0; deeper < 2; deeper++) {
            Chain chain = deeper == 0 ? Chain.justBelow() : Chain.justNotBelow();
            BoundWright x = chain.x;
            int one = chain.types[1 - deeper];
            int other = chain.ofTypes[2 - deeper];
            int list = x.kind(NEITHER, NONE, false);
            x.bound(list, 0, OBJECT);
            int bounded = x.kind(NEITHER, NONE, false);
            x.bound(bounded, 0, other);
            int type = x.of(bounded, out(one), 0);
            check.due("itself, " + (7 + deeper) + " deep", x.ofType(type, 4), 1 - deeper);
            check.due("in an ARGUMENT of an ARRAY, " + (7 + deeper) + " deep",
                    x.ofType(x.of(list, in(x.array(type)), 0), 4), 1 - deeper);
        }
    }

    /** "All else asks anew, 0 deep": what a CALL asks of what is given, of a BOUND of VARIABLE, of two METHODS. */
    private void callAsksAnew() {
        for (int deeper = 0; deeper < 2; deeper++) {
            Chain chain = deeper == 0 ? Chain.justBelow() : Chain.justNotBelow();
            BoundWright x = chain.x;
            int one = chain.types[1 - deeper];
            int other = chain.ofTypes[2 - deeper];
            int plain = x.method(0, 0, other, NONE, NONE, INT, false);
            int bounded = x.method(0, 1, VARIABLE, NONE, NONE, INT, false);
            x.variable(bounded, other);
            x.method(0, 2, other, NONE, NONE, INT, false);
            int special = x.method(0, 2, one, NONE, NONE, INT, false);
            check.due("a FORMAL, " + (7 + deeper) + " deep", x.call(OBJECT, 0, one, NONE, NONE, 0),
                    deeper == 0 ? plain : NONE);
            check.due("a BOUND of VARIABLE, " + (7 + deeper) + " deep", x.call(OBJECT, 1, one, NONE, NONE, 0),
                    deeper == 0 ? bounded : NONE);
            check.due("more SPECIAL, " + (7 + deeper) + " deep", x.call(OBJECT, 2, NULL, NONE, NONE, 0),
                    deeper == 0 ? special : AMBIGUOUS);
        }
    }

    /** "All else asks anew, 0 deep": FAULT 5, and the pairs of many() and pairsWith(). */
    private void faultsAskAnew() {
        for (int deeper = 0; deeper < 2; deeper++) {
            Chain chain = deeper == 0 ? Chain.justBelow() : Chain.justNotBelow();
            BoundWright x = chain.x;
            x.method(0, 0, NONE, NONE, NONE, chain.ofTypes[2 - deeper], false);
            x.method(1, 0, NONE, NONE, NONE, chain.types[1 - deeper], false);
            check.due("FAULT 5, " + (7 + deeper) + " deep", x.many(3), deeper);
            int pairs = 0;
            for (int one = 0; one < x.many(1); one++) {
                for (int other = 0; other < x.many(1); other++) {
                    pairs += one != other && x.isBelow(one, other) ? 1 : 0;
                }
            }
            check.due("many(6), " + (7 + deeper) + " deep", x.many(6), pairs);
            check.due("pairsWith(), " + (7 + deeper) + " deep", x.pairsWith(chain.n, 0, IN), pairs);
        }
    }

    /** "The JOIN of s and t: t, if s is BELOW t; otherwise s, if t is BELOW s": of two BELOW each other the second. */
    private void joinOfWhatIsBelowEachOther() {
        BoundWright x = new BoundWright();
        int list = x.kind(NEITHER, NONE, false);
        int any = x.of(list, ANY, 0);
        int outOfObject = x.of(list, out(OBJECT), 0);
        check.due("below", x.isBelow(any, outOfObject) && x.isBelow(outOfObject, any), true);
        check.due("the second, OUT of OBJECT", x.join(any, outOfObject), codeOf(x, outOfObject));
        check.due("the second, ANY", x.join(outOfObject, any), codeOf(x, any));
        for (int type = 0; type < x.many(1); type++) {
            check.due("of " + type + " and itself", x.join(type, type), codeOf(x, type));
        }
    }

    /** "of INT it is that of BOX": NULL is not BELOW INT, but BELOW BOX; no ARRAY is BELOW BOX. */
    private void joinOfIntAndNull() {
        BoundWright x = new BoundWright();
        int list = x.kind(NEITHER, NONE, false);
        int parameter = x.parameter(list, 0);
        int[] types = {INT, NULL, OBJECT, BOX, VARIABLE, parameter, x.array(INT), x.of(list, ANY, 0)};
        int[] due = {1, 51, 50, 51, 50, 50, 50, 50};
        for (int k = 0; k < types.length; k++) {
            check.due("INT and " + types[k], x.join(INT, types[k]), due[k]);
            check.due(types[k] + " and INT", x.join(types[k], INT), due[k]);
        }
        x.bound(list, 0, BOX);
        check.due("INT and a PARAMETER of BOX", x.join(INT, parameter), 51);
        check.due("a PARAMETER of BOX and INT", x.join(parameter, INT), 51);
        int ints = x.array(INT);
        int boxes = x.array(BOX);
        check.due("an ARRAY of INT and one of BOX: of all else OBJECT", x.join(ints, boxes), 50);
        check.due("ARRAYS of those", x.join(x.array(ints), x.array(boxes)), codeOfArray(50));
    }

    /** "those ABOVE no other of these, and of them that with the smallest number". */
    private void joinOfClassesAboveNoOther() {
        BoundWright x = new BoundWright();
        int upper = x.kind(NONE, NONE, false);
        int middle = x.kind(NONE, NONE, false);
        int aside = x.kind(NONE, NONE, false);
        int one = x.kind(NONE, NONE, false);
        int other = x.kind(NONE, NONE, false);
        x.extend(middle, x.of(upper, 0, 0));
        int[] lows = {one, other};
        for (int low : lows) {
            x.extend(low, x.of(aside, 0, 0));
        }
        check.due("the only one", x.join(x.of(one, 0, 0), x.of(other, 0, 0)), 50 + aside);
        for (int low : lows) {
            x.extend(low, x.of(middle, 0, 0));
        }
        check.due("the smallest is ABOVE another one", x.join(x.of(one, 0, 0), x.of(other, 0, 0)), 50 + middle);
        x.extend(one, x.of(upper, 0, 0));
        check.due("also if it is extended, too", x.join(x.of(other, 0, 0), x.of(one, 0, 0)), 50 + middle);
        check.due("one of the two is ABOVE the other one", x.join(x.of(upper, 0, 0), x.of(one, 0, 0)), 50 + upper);
        check.due("just OBJECT", x.join(x.of(upper, 0, 0), x.of(aside, 0, 0)), 50);
    }

    /** "the same, if both are the same; otherwise, if both are EXACT or OUT, and the PARAMETER is not IN, ...". */
    private void joinOfModes() {
        for (int variance = NEITHER; variance <= IN; variance++) {
            BoundWright x = new BoundWright();
            int list = x.kind(variance, NONE, false);
            int one = x.kind(NEITHER, NONE, false);
            int other = x.kind(NEITHER, NONE, false);
            x.extend(one, x.of(list, exact(x.parameter(one, 0)), 0));
            x.extend(other, x.of(list, exact(x.parameter(other, 0)), 0));
            int array = x.array(INT);
            int joined = variance == IN ? CODE_OF_ANY : codeOfArgument(50, 1);
            for (int k = 0; k < 16; k++) {
                int first = k / 4 == 3 ? ANY : 3 * BOX + k / 4;
                int second = k % 4 == 3 ? ANY : 3 * array + k % 4;
                int due = k / 4 < 2 && k % 4 < 2 ? joined : CODE_OF_ANY;
                check.due("VARIANCE " + variance + ", modes " + k / 4 + " and " + k % 4,
                        x.join(x.of(one, first, 0), x.of(other, second, 0)), codeOfClass(list, due));
            }
            for (int mode = 0; mode <= 2; mode++) {
                check.due("VARIANCE " + variance + ", the same in mode " + mode,
                        x.join(x.of(one, 3 * array + mode, 0), x.of(other, 3 * array + mode, 0)),
                        codeOfClass(list, codeOfArgument(22, mode)));
            }
        }
    }

    /** "(but ANY, in a JOIN that is asked for such a one, over ARRAYS and BOUNDS, too)"; what is the same stays. */
    private void joinInAJoin() {
        BoundWright x = new BoundWright();
        int plain = plainType(x);
        int same = codeOfArgument(codeOf(x, plain), 1);
        int list = x.kind(NEITHER, NONE, false);
        int pair = x.kind(NEITHER, NEITHER, false);
        int one = x.of(pair, exact(BOX), out(plain));
        int other = x.of(pair, exact(plain), out(plain));
        int inner = codeOfClass(pair, CODE_OF_ANY, same);
        int outer = codeOfClass(pair, codeOfArgument(50, 1), same);
        check.due("itself", x.join(one, other), outer);
        check.due("asked for an ARGUMENT", x.join(x.of(list, exact(one), 0), x.of(list, exact(other), 0)),
                codeOfClass(list, codeOfArgument(inner, 1)));
        int ones = x.array(one);
        int others = x.array(other);
        check.due("ARRAYS", x.join(ones, others), codeOfArray(outer));
        check.due("asked for an ARGUMENT, over ARRAYS",
                x.join(x.of(list, exact(ones), 0), x.of(list, exact(others), 0)),
                codeOfClass(list, codeOfArgument(codeOfArray(inner), 1)));
        int user = x.kind(NEITHER, NEITHER, false);
        x.bound(user, 0, one);
        x.bound(user, 1, other);
        int first = x.parameter(user, 0);
        int second = x.parameter(user, 1);
        check.due("BOUNDS", x.join(first, second), outer);
        check.due("asked for an ARGUMENT, over BOUNDS",
                x.join(x.of(list, exact(first), 0), x.of(list, exact(second), 0)),
                codeOfClass(list, codeOfArgument(inner, 1)));
        check.due("asked for an ARGUMENT, over ARRAYS and BOUNDS",
                x.join(x.of(list, out(x.array(first)), 0), x.of(list, exact(x.array(second)), 0)),
                codeOfClass(list, codeOfArgument(codeOfArray(inner), 1)));
    }

    /** "of each ARGUMENT": each of the two by itself, and by the VARIANCE of its own PARAMETER. */
    private void joinOfTwoArguments() {
        BoundWright x = new BoundWright();
        int pair = x.kind(NEITHER, IN, false);
        int turned = x.kind(IN, NEITHER, false);
        int array = x.array(INT);
        int outOfObject = codeOfArgument(50, 1);
        check.due("the second is IN",
                x.join(x.of(pair, exact(BOX), exact(array)), x.of(pair, exact(array), exact(BOX))),
                codeOfClass(pair, outOfObject, CODE_OF_ANY));
        check.due("the first is IN",
                x.join(x.of(turned, exact(BOX), exact(array)), x.of(turned, exact(array), exact(BOX))),
                codeOfClass(turned, CODE_OF_ANY, outOfObject));
        check.due("the second is the same", x.join(x.of(pair, exact(BOX), in(BOX)), x.of(pair, exact(array), in(BOX))),
                codeOfClass(pair, outOfObject, codeOfArgument(51, 2)));
        check.due("the first is the same, ANY", x.join(x.of(turned, ANY, exact(BOX)), x.of(turned, ANY, out(array))),
                codeOfClass(turned, CODE_OF_ANY, outOfObject));
    }

    /** A JOIN need not be a TYPE that is told, and is not told by that: when 28 are told, too. */
    private void joinIsNotTold() {
        BoundWright x = new BoundWright();
        int pair = x.kind(NEITHER, NEITHER, false);
        int one = x.of(pair, exact(BOX), exact(BOX));
        int other = x.of(pair, out(x.array(BOX)), exact(VARIABLE));
        int due = codeOfClass(pair, codeOfArgument(50, 1), codeOfArgument(50, 1));
        check.due("the JOIN", x.join(one, other), due);
        check.due("many(1)", x.many(1), other + 1);
        fillTypes(x, pair, TYPES);
        check.due("the JOIN, with 28 told", x.join(one, other), due);
        check.due("many(1), with 28 told", x.many(1), TYPES);
    }

    /** "Throws IllegalArgumentException if kinds is below 0, or has one that there is not". */
    private void setsOfAreAll() {
        BoundWright x = new BoundWright();
        for (int count = 2; count <= KINDS; count++) {
            fillKinds(x, count);
            int all = (1 << count) - 1;
            check.due("all, with " + count, x.areAll(OBJECT, all), true);
            check.due("all but OBJECT, with " + count, x.areAll(OBJECT, all - 1), false);
            check.due("the last one, with " + count, x.areAll(BOX, 1 << count - 1), count == 2);
            check.due("none, with " + count, x.areAll(OBJECT, 0), false);
            for (int wrong : new int[] {all + 1, -1, 1 << 14, MOST, LEAST}) {
                check.argument(wrong + ", with " + count, x, () -> x.areAll(OBJECT, wrong));
                check.argument(wrong + " of INT, with " + count, x, () -> x.areAll(INT, wrong));
                check.bounds(wrong + " of no type, with " + count, x, () -> x.areAll(5, wrong));
            }
        }
    }

    /** "whether ...: it is one of a CLASS that is COVERED": no other TYPE is; "each CLASS that EXTENDS" of none. */
    private void areAllOfNone() {
        BoundWright x = new BoundWright();
        int sealedKind = x.kind(NEITHER, NONE, true);
        int openKind = x.kind(NEITHER, NONE, false);
        int sealedType = x.of(sealedKind, exact(BOX), 0);
        int parameter = x.parameter(sealedKind, 0);
        x.bound(sealedKind, 0, sealedType);
        check.due("SEALED, and none extends it", x.areAll(sealedType, 0), true);
        check.due("not SEALED, and none extends it", x.areAll(x.of(openKind, exact(BOX), 0), 0), false);
        int all = (1 << 4) - 1;
        for (int type : new int[] {INT, NULL, VARIABLE, parameter, x.array(sealedType)}) {
            check.due("no TYPE of a CLASS, " + type, x.areAll(type, all), false);
            check.due("no TYPE of a CLASS, of none, " + type, x.areAll(type, 0), false);
        }
    }

    /** COVERED over 12 classes: "or it is SEALED, and each CLASS that EXTENDS a TYPE of it is COVERED". */
    private void areAllFurtherOn() {
        BoundWright x = new BoundWright();
        for (int kind = 2; kind < KINDS; kind++) {
            x.kind(NONE, NONE, kind < 13);
            if (kind > 2) {
                x.extend(kind, x.of(kind - 1, 0, 0));
            }
        }
        int top = x.of(2, 0, 0);
        check.due("none", x.areAll(top, 0), false);
        for (int kind = 2; kind < KINDS; kind++) {
            check.due("just " + kind, x.areAll(top, 1 << kind), true);
            check.due("of the last one, just " + kind, x.areAll(x.of(13, 0, 0), 1 << kind), true);
        }
        check.due("BOX", x.areAll(top, 1 << 1), false);
        check.due("OBJECT is above it", x.areAll(top, 1), true);
        BoundWright y = new BoundWright();
        int upper = y.kind(NONE, NONE, true);
        int open = y.kind(NONE, NONE, false);
        int low = y.kind(NONE, NONE, false);
        y.extend(open, y.of(upper, 0, 0));
        y.extend(low, y.of(open, 0, 0));
        check.due("one on the way is not SEALED", y.areAll(y.of(upper, 0, 0), 1 << low), false);
        check.due("that one itself", y.areAll(y.of(upper, 0, 0), 1 << open), true);
    }

    /** "or CANNOT BE: one ARGUMENT of the TYPE that it EXTENDS is ANY or CLOSED, and not WITHIN": first or second. */
    private void cannotBeByOneArgument() {
        BoundWright x = new BoundWright();
        int pair = x.kind(NEITHER, NEITHER, true);
        int low = x.kind(NEITHER, NONE, false);
        int parameter = x.parameter(low, 0);
        int none = 0;
        x.extend(low, x.of(pair, exact(parameter), exact(BOX)));
        check.due("the second is WITHIN", x.areAll(x.of(pair, exact(OBJECT), exact(BOX)), none), false);
        check.due("the second is not", x.areAll(x.of(pair, exact(BOX), exact(OBJECT)), none), true);
        check.due("WITHIN ANY", x.areAll(x.of(pair, ANY, ANY), none), false);
        check.due("WITHIN OUT", x.areAll(x.of(pair, ANY, out(BOX)), none), false);
        check.due("not WITHIN IN", x.areAll(x.of(pair, ANY, in(OBJECT)), none), true);
        int other = x.kind(NONE, NONE, false);
        x.extend(other, x.of(pair, exact(BOX), ANY));
        int others = 1 << low;
        check.due("ANY is the second", x.areAll(x.of(pair, exact(BOX), exact(BOX)), others), true);
        check.due("ANY WITHIN ANY, the first is WITHIN", x.areAll(x.of(pair, exact(BOX), ANY), others), false);
        check.due("ANY WITHIN OUT of OBJECT", x.areAll(x.of(pair, exact(BOX), out(OBJECT)), others), false);
        check.due("the first is not", x.areAll(x.of(pair, exact(VARIABLE), ANY), others), true);
        check.due("each of them has to be", x.areAll(x.of(pair, exact(VARIABLE), ANY), none), false);
    }

    /** "of the TYPE that it EXTENDS": of three the one of that CLASS, and not what the next CLASS EXTENDS. */
    private void cannotBeByWhatItExtends() {
        BoundWright x = new BoundWright();
        int list = x.kind(NEITHER, NONE, true);
        int other = x.kind(NEITHER, NONE, false);
        int three = x.kind(NONE, NONE, false);
        int next = x.kind(NONE, NONE, false);
        x.extend(three, OBJECT);
        x.extend(three, x.of(other, exact(OBJECT), 0));
        x.extend(three, x.of(list, exact(BOX), 0));
        x.extend(next, x.of(list, exact(OBJECT), 0));
        int ofBox = x.of(list, exact(BOX), 0);
        int ofObject = x.of(list, exact(OBJECT), 0);
        check.due("the third can be", x.areAll(ofBox, 1 << next), false);
        check.due("the third cannot be", x.areAll(ofObject, 1 << next), true);
        check.due("the next can be", x.areAll(ofObject, 1 << three), false);
        check.due("the next cannot be", x.areAll(ofBox, 1 << three), true);
        check.due("another class is none of it", x.areAll(x.of(list, exact(VARIABLE), 0), 1 << other), true);
    }

    /** "not WITHIN": by the VARIANCE of the PARAMETER, of the second one by its own. */
    private void cannotBeByItsVariance() {
        for (int variance = NEITHER; variance <= IN; variance++) {
            BoundWright x = new BoundWright();
            int before = x.kind(IN, OUT, false);
            int pair = x.kind(OUT, variance, true);
            int low = x.kind(NONE, NONE, false);
            int middle = plainType(x);
            x.extend(low, x.of(pair, exact(OBJECT), exact(middle)));
            String what = "VARIANCE " + variance + " of " + pair + ", behind " + before;
            check.due(what + ", itself", x.areAll(x.of(pair, exact(OBJECT), exact(middle)), 0), false);
            check.due(what + ", EXACT of what is above",
                    x.areAll(x.of(pair, exact(OBJECT), exact(OBJECT)), 0), variance != OUT);
            check.due(what + ", EXACT of what is below",
                    x.areAll(x.of(pair, exact(OBJECT), exact(BOX)), 0), true);
            check.due(what + ", IN of it", x.areAll(x.of(pair, exact(OBJECT), in(middle)), 0), variance == OUT);
            check.due(what + ", the first is not", x.areAll(x.of(pair, exact(BOX), exact(middle)), 0), true);
        }
    }

    /** "pairs of two TYPES, not the same, of which the first one is BELOW the other one": none of INT; of 33 types. */
    private void pairsOfAll() {
        BoundWright x = new BoundWright();
        check.due("of a new object", x.many(6), 5);
        int pair = x.kind(NEITHER, NEITHER, false);
        check.due("a class alone changes nothing", x.many(6), 5);
        x.of(pair, ANY, ANY);
        check.due("one TYPE more: below OBJECT, above NULL", x.many(6), 7);
        x.of(pair, out(OBJECT), ANY);
        check.due("each other's", x.many(6), 7 + 2 + 2);
        fillTypes(x, pair, TYPES);
        int pairs = 0;
        for (int one = 0; one < TYPES; one++) {
            for (int other = 0; other < TYPES; other++) {
                pairs += one != other && x.isBelow(one, other) ? 1 : 0;
            }
        }
        check.due("of 33 types", x.many(6), pairs);
    }

    /** "with that VARIANCE": each of the three, of the first and of the second PARAMETER of each class. */
    private void pairsWithEachVariance() {
        for (int told = NEITHER; told <= IN; told++) {
            BoundWright x = new BoundWright();
            int before = x.kind(told, told, false);
            int pair = x.kind(told, told, false);
            x.of(before, exact(BOX), exact(BOX));
            x.of(before, exact(BOX), exact(OBJECT));
            x.of(before, exact(OBJECT), exact(OBJECT));
            x.of(pair, exact(BOX), exact(VARIABLE));
            x.of(pair, exact(OBJECT), exact(VARIABLE));
            x.of(pair, out(BOX), exact(VARIABLE));
            for (int variance = NEITHER; variance <= IN; variance++) {
                for (int parameter = 0; parameter < 2; parameter++) {
                    int due = 5 + 12 + pairsOf(parameter == 0 ? variance : told, parameter == 1 ? variance : told)
                            + pairsOf(told);
                    String call = ", 0 to 1: " + parameter + ", " + variance + ") where all are " + told;
                    check.due("pairsWith(2" + call, x.pairsWith(before, parameter, variance), due);
                    due = 5 + 12 + pairsOf(told, told) + pairsOf(parameter == 0 ? variance : told);
                    check.due("pairsWith(3" + call, x.pairsWith(pair, parameter, variance), due);
                }
            }
            check.due("as it is, where all are " + told, x.many(6), 5 + 12 + pairsOf(told, told) + pairsOf(told));
            for (int wrong : new int[] {-1, 3, MOST, LEAST}) {
                check.argument("VARIANCE " + wrong, x, () -> x.pairsWith(pair, 1, wrong));
                check.bounds("VARIANCE " + wrong + " of no parameter", x, () -> x.pairsWith(pair, 2, wrong));
            }
        }
    }

    /** Of <BOX, BOX>, <BOX, OBJECT> and <OBJECT, OBJECT>, with these VARIANCES. */
    private static int pairsOf(int first, int second) {
        int ofSecond = second == NEITHER ? 0 : 1;
        int ofFirst = first == NEITHER ? 0 : 1;
        int ofBoth = first != NEITHER && first == second ? 1 : 0;
        return ofSecond + ofFirst + ofBoth;
    }

    /** Of <BOX, ..>, <OBJECT, ..> and <OUT BOX, ..>, with this VARIANCE of the first. */
    private static int pairsOf(int first) {
        return first == OUT ? 4 : 1;
    }
}
