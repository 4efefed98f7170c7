/**
 * Terms, section 2 (and ERASED and CODE of section 6, KEEPS of section 3), and promises 6 to 9 and 12: one test for
 * each sentence that names a boundary case.
 */
final class EdgesOfTypesTest extends Promises {
    public static void main(String[] arguments) {
        EdgesOfTypesTest test = new EdgesOfTypesTest();
        test.typesThatAreThere();
        test.twentyEightMore();
        test.toldAgainWhenFull();
        test.refusedFirstWhenFull();
        test.argumentNumbers();
        test.argumentsWhereThereIsNoParameter();
        test.neitherIntNorNull();
        test.arrayOfNullOnly();
        test.classesFourDeep();
        test.arraysFourDeep();
        test.anyIsNotDeep();
        test.closedInWhateverDepth();
        test.putForEachMode();
        test.putInWhateverDepth();
        test.putIntoItsOwnClass();
        test.putBothParameters();
        test.asItselfAndAsNone();
        test.asIsNoTypeOfItsOwn();
        test.erasedNumbers();
        test.codesOfTheLastClass();
        test.codeRests();
        test.keepsEachMode();
        test.keepsInWhateverDepth();
        test.ofTypeNumbers();
        test.check.end();
    }

    /** "TYPES are numbered as they are told, each once": 0 INT, 1 NULL, 2 OBJECT, 3 BOX, 4 VARIABLE. */
    private void typesThatAreThere() {
        BoundWright x = new BoundWright();
        check.due("how many", x.many(1), 5);
        check.due("OBJECT told again", x.of(0, 0, 0), 2);
        check.due("BOX told again", x.of(1, 0, 0), 3);
        check.due("still", x.many(1), 5);
        check.bounds("type 5 is not there", x, () -> x.array(5));
        check.due("the first one that is told", x.array(4), 5);
        check.due("it can be used at once", x.array(5), 6);
        check.due("told again", x.array(4), 5);
        check.due("two are told", x.many(1), 7);
    }

    /** "and at most 28 more": the 28th, and the 29th, of each sort. */
    private void twentyEightMore() {
        for (int sort = 0; sort < 3; sort++) {
            BoundWright x = new BoundWright();
            int pair = x.kind(NEITHER, NEITHER, false);
            fillTypes(x, pair, TYPES - 1);
            check.bounds("number 32 is not there yet", x, () -> x.ofType(TYPES - 1, 0));
            int last = sort == 0 ? x.of(pair, ANY, ANY) : sort == 1 ? x.parameter(pair, 1) : x.array(INT);
            check.due("the 28th, sort " + sort, last, TYPES - 1);
            check.due("how many then", x.many(1), TYPES);
            check.due("it can be asked about", x.ofType(last, 0), new int[] {2, 4, 5}[sort]);
            check.state("a 29th, of()", x, () -> x.of(pair, ANY, exact(BOX)));
            check.state("a 29th, parameter()", x, () -> x.parameter(pair, 0));
            check.state("a 29th, array()", x, () -> x.array(last));
            check.due("how many still", x.many(1), TYPES);
            check.bounds("number 33 is not there", x, () -> x.ofType(TYPES, 0));
        }
    }

    /** "told again, it is the same number", when 28 are told, too: "if it is new, and 28 are told". */
    private void toldAgainWhenFull() {
        BoundWright x = new BoundWright();
        int pair = x.kind(NEITHER, NEITHER, false);
        int parameter = x.parameter(pair, 1);
        int array = x.array(parameter);
        int both = x.of(pair, exact(parameter), out(array));
        fillTypes(x, pair, TYPES);
        check.due("the parameter", x.parameter(pair, 1), parameter);
        check.due("the array", x.array(parameter), array);
        check.due("the class with arguments", x.of(pair, exact(parameter), out(array)), both);
        check.due("OBJECT", x.of(0, 0, 0), OBJECT);
        check.due("none was told", x.many(1), TYPES);
    }

    /** "If several exceptions apply, the one that is named first is thrown": ahead of "28 are told". */
    private void refusedFirstWhenFull() {
        BoundWright x = new BoundWright();
        int pair = x.kind(NEITHER, NEITHER, false);
        int deep = x.array(x.array(x.array(INT)));
        fillTypes(x, pair, TYPES);
        check.bounds("no class, of()", x, () -> x.of(3, 5, 5));
        check.argument("no argument, of()", x, () -> x.of(pair, ANY, 5));
        check.argument("an argument where there is none, of()", x, () -> x.of(0, 0, exact(BOX)));
        check.argument("5 DEEP, of()", x, () -> x.of(pair, ANY, exact(deep)));
        check.bounds("no class, parameter()", x, () -> x.parameter(3, 0));
        check.bounds("no parameter, parameter()", x, () -> x.parameter(pair, 2));
        check.bounds("no type, array()", x, () -> x.array(TYPES));
        check.argument("NULL, array()", x, () -> x.array(NULL));
        check.argument("5 DEEP, array()", x, () -> x.array(deep));
        check.state("4 DEEP, of()", x, () -> x.of(pair, ANY, exact(x.array(x.array(INT)))));
    }

    /** "An ARGUMENT is told as NONE (ANY), or 3 times its TYPE and its MODE": from OBJECT, EXACT, to the last, IN. */
    private void argumentNumbers() {
        for (int place = 0; place < 2; place++) {
            BoundWright x = new BoundWright();
            int pair = x.kind(NEITHER, NEITHER, false);
            int first = place;
            int last = x.array(BOX);
            for (int wrong : new int[] {LEAST, -3, -2, 0, 1, 2, 3, 4, 5, exact(last) + 3, MOST}) {
                check.argument("place " + place + ", " + wrong, x,
                        () -> x.of(pair, first == 0 ? wrong : ANY, first == 0 ? ANY : wrong));
            }
            for (int right : new int[] {ANY, exact(OBJECT), out(OBJECT), in(OBJECT), in(last)}) {
                int due = x.many(1);
                check.due("place " + place + ", " + right,
                        x.of(pair, place == 0 ? right : ANY, place == 0 ? ANY : right), due);
            }
            check.due("a type is one as soon as it is told, place " + place,
                    x.of(pair, place == 0 ? exact(last + 1) : ANY, place == 0 ? ANY : exact(last + 1)), last + 6);
        }
    }

    /** "0, where there is no PARAMETER", "or is told where there is no PARAMETER". */
    private void argumentsWhereThereIsNoParameter() {
        BoundWright x = new BoundWright();
        int plain = x.kind(NONE, NONE, false);
        int list = x.kind(NEITHER, NONE, false);
        int pair = x.kind(NEITHER, NEITHER, false);
        for (int wrong : new int[] {LEAST, -2, ANY, 1, 5, exact(OBJECT), in(VARIABLE), MOST}) {
            check.argument("none, first " + wrong, x, () -> x.of(plain, wrong, 0));
            check.argument("none, second " + wrong, x, () -> x.of(plain, 0, wrong));
            check.argument("one, second " + wrong, x, () -> x.of(list, exact(BOX), wrong));
        }
        check.due("none", x.of(plain, 0, 0), 5);
        check.due("one", x.of(list, exact(BOX), 0), 6);
        check.argument("one, where there is a parameter, too", x, () -> x.of(list, 0, 0));
        check.argument("two, the second", x, () -> x.of(pair, exact(BOX), 0));
        check.argument("two, the first", x, () -> x.of(pair, 0, exact(BOX)));
        check.due("two", x.of(pair, exact(BOX), exact(BOX)), 7);
    }

    /** "a TYPE with a MODE: EXACT (0), OUT (1), IN (2); that TYPE is neither INT nor NULL": all else may be one. */
    private void neitherIntNorNull() {
        BoundWright x = new BoundWright();
        int list = x.kind(NEITHER, NONE, false);
        int[] types = {OBJECT, BOX, VARIABLE, x.parameter(list, 0), x.array(INT), x.of(list, ANY, 0)};
        for (int mode = 0; mode <= 2; mode++) {
            int ofInt = 3 * INT + mode;
            int ofNull = 3 * NULL + mode;
            check.argument("INT, mode " + mode, x, () -> x.of(list, ofInt, 0));
            check.argument("NULL, mode " + mode, x, () -> x.of(list, ofNull, 0));
            for (int type : types) {
                int due = x.many(1);
                check.due("type " + type + ", mode " + mode, x.of(list, 3 * type + mode, 0), due);
            }
        }
        check.due("each of them is another one", x.many(1), 8 + 18);
    }

    /** "an ARRAY of a TYPE that is not NULL": INT, VARIABLE and all else may be. */
    private void arrayOfNullOnly() {
        BoundWright x = new BoundWright();
        int list = x.kind(NEITHER, NONE, false);
        int parameter = x.parameter(list, 0);
        int any = x.of(list, ANY, 0);
        int due = any + 1;
        for (int type : new int[] {INT, OBJECT, BOX, VARIABLE, parameter, any}) {
            check.due("array(" + type + ")", x.array(type), due++);
        }
        check.argument("array(NULL)", x, () -> x.array(NULL));
        int last = due;
        for (int none : new int[] {last, -1, MOST, LEAST}) {
            check.bounds("array(" + none + ")", x, () -> x.array(none));
        }
    }

    /** "at most 4 DEEP: a CLASS 1 more than the deepest of its ARGUMENTS". */
    private void classesFourDeep() {
        BoundWright x = new BoundWright();
        int pair = x.kind(NEITHER, NEITHER, false);
        int two = x.of(pair, exact(x.parameter(pair, 0)), exact(BOX));
        int three = x.of(pair, exact(VARIABLE), in(two));
        check.due("4 by the first", x.of(pair, out(three), exact(BOX)), three + 1);
        check.due("4 by the second", x.of(pair, exact(two), exact(three)), three + 2);
        check.due("4 by both", x.of(pair, exact(three), exact(three)), three + 3);
        int four = three + 1;
        for (int mode = 0; mode <= 2; mode++) {
            int deep = exact(four) + mode;
            check.argument("5 by the first, mode " + mode, x, () -> x.of(pair, deep, exact(BOX)));
            check.argument("5 by the second, mode " + mode, x, () -> x.of(pair, ANY, deep));
            check.argument("5 by the second, the first is less, mode " + mode, x, () -> x.of(pair, exact(two), deep));
            check.argument("5 by both, mode " + mode, x, () -> x.of(pair, deep, deep));
        }
    }

    /** "an ARRAY 1 more than that of which it is one, without any, and all else, 1". */
    private void arraysFourDeep() {
        int[] ones = {INT, OBJECT, BOX, VARIABLE, 5, 6};
        for (int one : ones) {
            BoundWright x = new BoundWright();
            int list = x.kind(NEITHER, NONE, false);
            x.parameter(list, 0);
            x.of(list, ANY, 0);
            int three = x.array(x.array(one));
            int four = x.array(three);
            check.due("4 DEEP, of " + one, x.ofType(four, 0), 5);
            check.argument("5 DEEP, of " + one, x, () -> x.array(four));
            check.argument("5 DEEP, an argument, of " + one, x, () -> x.of(list, out(four), 0));
            check.due("4 DEEP, an argument, of " + one, x.of(list, in(three), 0), four + 1);
            check.argument("5 DEEP, of that, of " + one, x, () -> x.array(four + 1));
        }
    }

    /** "of its ARGUMENTS that are not ANY", "without any ..., 1": one of ANYs is 1 DEEP. */
    private void anyIsNotDeep() {
        BoundWright x = new BoundWright();
        int list = x.kind(NEITHER, NONE, false);
        int pair = x.kind(NEITHER, NEITHER, false);
        int one = x.of(list, ANY, 0);
        int two = x.of(list, exact(one), 0);
        int three = x.of(pair, ANY, exact(two));
        int four = x.of(pair, exact(three), ANY);
        check.due("4 DEEP", x.ofType(four, 0), 2);
        check.argument("5 DEEP", x, () -> x.of(pair, ANY, exact(four)));
        int both = x.of(pair, ANY, ANY);
        check.due("4 DEEP of two ANYs", x.ofType(x.array(x.array(x.array(both))), 0), 5);
        int deepest = x.many(1) - 1;
        check.argument("5 DEEP of two ANYs", x, () -> x.array(deepest));
    }

    /** "A TYPE is CLOSED, if it has no PARAMETER, nor VARIABLE, in it, in whatever depth". */
    private void closedInWhateverDepth() {
        BoundWright x = new BoundWright();
        int pair = x.kind(NEITHER, NEITHER, false);
        int[] leaves = {BOX, VARIABLE, x.parameter(pair, 1), x.array(INT)};
        for (int leaf : leaves) {
            int due = leaf == BOX || x.ofType(leaf, 0) == 5 ? 1 : 0;
            check.due("itself, " + leaf, x.ofType(leaf, 3), due);
            int inFirst = x.of(pair, in(leaf), ANY);
            int inSecond = x.of(pair, exact(OBJECT), out(leaf));
            check.due("as the first argument, " + leaf, x.ofType(inFirst, 3), due);
            check.due("as the second argument, " + leaf, x.ofType(inSecond, 3), due);
            if (x.ofType(leaf, 0) != 5) {
                int array = x.array(inSecond);
                check.due("4 DEEP, " + leaf, x.ofType(x.of(pair, ANY, exact(array)), 3), due);
                check.due("an ARRAY 4 DEEP, " + leaf, x.ofType(x.array(array), 3), due);
            }
        }
        check.due("INT", x.ofType(INT, 3), 1);
        check.due("NULL", x.ofType(NULL, 3), 1);
        check.due("ANY alone", x.ofType(x.of(pair, ANY, ANY), 3), 1);
    }

    /** To PUT: the TYPE itself, an ARRAY, and an ARGUMENT of each MODE; in place of it, EXACT, OUT, IN, or ANY. */
    private void putForEachMode() {
        BoundWright x = new BoundWright();
        int list = x.kind(NEITHER, NONE, false);
        int element = x.parameter(list, 0);
        int array = x.array(element);
        int[] results = {element, array, x.of(list, exact(element), 0), x.of(list, out(element), 0),
            x.of(list, in(element), 0), x.of(list, exact(array), 0)};
        for (int k = 0; k < results.length; k++) {
            x.method(list, k, NONE, NONE, NONE, results[k], false);
        }
        int[] modes = {0, 1, 2, ANY};
        for (int mode : modes) {
            int on = x.of(list, mode == ANY ? ANY : 3 * BOX + mode, 0);
            int type = mode == 0 || mode == 1 ? 51 : 50;
            int whole = mode == ANY ? CODE_OF_ANY : codeOfArgument(51, mode);
            int[] due = {type, codeOfArray(type), codeOfClass(list, whole), codeOfClass(list, codeOfArgument(type, 1)),
                codeOfClass(list, codeOfArgument(type, 2)), codeOfClass(list, codeOfArgument(codeOfArray(type), 0))};
            for (int k = 0; k < due.length; k++) {
                check.due("result " + k + " on mode " + mode, x.call(on, k, NONE, NONE, NONE, 2), due[k]);
            }
        }
    }

    /** "in whatever depth": what is PUT may be 4 DEEP into what is 4 DEEP. */
    private void putInWhateverDepth() {
        BoundWright x = new BoundWright();
        int list = x.kind(OUT, NONE, false);
        int element = x.parameter(list, 0);
        int two = x.of(list, exact(element), 0);
        int four = x.of(list, in(x.array(two)), 0);
        int array = x.array(x.array(x.array(element)));
        x.method(list, 0, NONE, NONE, NONE, four, false);
        x.method(list, 1, NONE, NONE, NONE, array, false);
        int inner = x.array(x.array(BOX));
        int on = x.of(list, in(inner), 0);
        int outOf = x.of(list, out(inner), 0);
        int code = codeOfArray(codeOfArray(51));
        int put = codeOfClass(list, codeOfArgument(codeOfArray(codeOfClass(list, codeOfArgument(code, 2))), 2));
        check.due("an argument at the bottom, IN", x.call(on, 0, NONE, NONE, NONE, 2), put);
        check.due("an ARRAY of ARRAYS, IN", x.call(on, 1, NONE, NONE, NONE, 2),
                codeOfArray(codeOfArray(codeOfArray(50))));
        check.due("an ARRAY of ARRAYS, OUT", x.call(outOf, 1, NONE, NONE, NONE, 2),
                codeOfArray(codeOfArray(codeOfArray(code))));
        check.due("the CAST of 5 ARRAYS", x.call(outOf, 1, NONE, NONE, NONE, 4), 5001);
        check.due("nothing is told by that", x.many(1), outOf + 1);
    }

    /** The same where all are EXACT and of one CLASS: just the PARAMETER is replaced, with its MODE, or by ANY. */
    private void putIntoItsOwnClass() {
        BoundWright x = new BoundWright();
        int list = x.kind(NEITHER, NONE, false);
        int pair = x.kind(NEITHER, NEITHER, false);
        int second = x.parameter(pair, 1);
        int inner = x.of(pair, exact(second), exact(second));
        x.method(list, 0, NONE, NONE, NONE, x.of(list, exact(x.of(list, exact(x.parameter(list, 0)), 0)), 0), false);
        x.method(pair, 0, NONE, NONE, NONE, x.of(pair, exact(inner), exact(x.of(pair, ANY, exact(inner)))), false);
        for (int mode : new int[] {0, 1, 2, ANY}) {
            int argument = mode == ANY ? ANY : 3 * BOX + mode;
            int code = mode == ANY ? CODE_OF_ANY : codeOfArgument(51, mode);
            check.due("of one, mode " + mode, x.call(x.of(list, argument, 0), 0, NONE, NONE, NONE, 2),
                    codeOfClass(list, codeOfArgument(codeOfClass(list, code), 0)));
            int twice = codeOfArgument(codeOfClass(pair, code, code), 0);
            check.due("of two, mode " + mode, x.call(x.of(pair, in(VARIABLE), argument), 0, NONE, NONE, NONE, 2),
                    codeOfClass(pair, twice, codeOfArgument(codeOfClass(pair, CODE_OF_ANY, twice), 0)));
        }
    }

    /** Both PARAMETERS at once: what is PUT for one of them is not looked at for the other one. */
    private void putBothParameters() {
        BoundWright x = new BoundWright();
        int pair = x.kind(NEITHER, NEITHER, false);
        int first = x.parameter(pair, 0);
        int second = x.parameter(pair, 1);
        int turned = x.of(pair, exact(second), exact(first));
        x.method(pair, 0, NONE, NONE, NONE, turned, false);
        x.method(pair, 1, first, second, NONE, second, false);
        int on = x.of(pair, out(BOX), ANY);
        check.due("turned", x.call(on, 0, NONE, NONE, NONE, 2), codeOfClass(pair, CODE_OF_ANY, codeOfArgument(51, 1)));
        check.due("turned, on itself turned", x.call(turned, 0, NONE, NONE, NONE, 2),
                codeOfClass(pair, codeOfArgument(codeOfParameter(pair, 0), 0),
                        codeOfArgument(codeOfParameter(pair, 1), 0)));
        check.due("the second one is the result", x.call(turned, 1, second, first, NONE, 2), codeOfParameter(pair, 0));
        check.due("the first one is no second one", x.call(turned, 1, first, second, NONE, 0), NONE);
    }

    /** "of a TYPE of c: that TYPE, if d is c"; "NONE, if it is no TYPE of a CLASS, or that is neither ...". */
    private void asItselfAndAsNone() {
        BoundWright x = new BoundWright();
        int list = x.kind(NEITHER, NONE, false);
        int low = x.kind(NEITHER, NONE, false);
        int aside = x.kind(NEITHER, NONE, false);
        x.extend(low, x.of(list, ANY, 0));
        int lowOfArray = x.of(low, in(x.array(INT)), 0);
        check.due("its class", x.as(lowOfArray, low), codeOfClass(low, codeOfArgument(22, 2)));
        check.due("that which it extends", x.as(lowOfArray, list), codeOfClass(list, CODE_OF_ANY));
        check.due("OBJECT", x.as(lowOfArray, 0), 50);
        check.due("one that is not above", x.as(lowOfArray, aside), NONE);
        check.due("one that is below", x.as(x.of(list, ANY, 0), low), NONE);
        for (int type : new int[] {INT, NULL, VARIABLE, x.parameter(low, 0), x.array(BOX)}) {
            check.due("no TYPE of a CLASS, " + type, x.as(type, 0), NONE);
        }
        int last = x.many(1) - 1;
        for (int none : new int[] {-1, aside + 1, KINDS, MOST, LEAST}) {
            check.bounds("as(.., " + none + ")", x, () -> x.as(lowOfArray, none));
            check.bounds("as(INT, " + none + ")", x, () -> x.as(INT, none));
        }
        for (int none : new int[] {-1, last + 1, TYPES, MOST, LEAST}) {
            check.bounds("as(" + none + ", 0)", x, () -> x.as(none, 0));
        }
    }

    /** What a TYPE is AS another CLASS need not be told, and is not told by that; when 28 are told, too. */
    private void asIsNoTypeOfItsOwn() {
        BoundWright x = new BoundWright();
        int pair = x.kind(NEITHER, NEITHER, false);
        int low = x.kind(NEITHER, NONE, false);
        int parameter = x.parameter(low, 0);
        x.extend(low, x.of(pair, exact(parameter), exact(BOX)));
        int type = x.of(low, in(BOX), 0);
        int due = codeOfClass(pair, codeOfArgument(51, 2), codeOfArgument(51, 0));
        check.due("as pair", x.as(type, pair), due);
        check.due("many(1)", x.many(1), type + 1);
        fillTypes(x, pair, TYPES);
        check.due("as pair, with 28 told", x.as(x.of(low, in(BOX), 0), pair), due);
        check.due("many(1), with 28 told", x.many(1), TYPES);
    }

    /** "INT 100, NULL 101, a CLASS its number, ... an ARRAY 1000 more": of the last class, 3 ARRAYS. */
    private void erasedNumbers() {
        BoundWright x = new BoundWright();
        fillKinds(x, KINDS - 1);
        int last = x.kind(NEITHER, NEITHER, false);
        int type = x.of(last, ANY, ANY);
        int parameter = x.parameter(last, 1);
        x.bound(last, 1, type);
        int[] types = {INT, OBJECT, BOX, VARIABLE, type, parameter};
        int[] due = {100, 0, 1, 0, 13, 13};
        for (int k = 0; k < types.length; k++) {
            int array = types[k];
            for (int arrays = 0; arrays <= 3; arrays++) {
                check.due(arrays + " ARRAYS of " + types[k], x.ofType(array, 1), 1000 * arrays + due[k]);
                array = arrays < 3 ? x.array(array) : array;
            }
        }
        check.due("NULL", x.ofType(NULL, 1), 101);
        check.due("the other PARAMETER", x.ofType(x.parameter(last, 0), 1), 0);
    }

    /** "INT 1, NULL 2, VARIABLE 3; the PARAMETER i of the CLASS c: 10 + 2 * c + i; the CLASS c: 50 + c". */
    private void codesOfTheLastClass() {
        BoundWright x = new BoundWright();
        int first = x.kind(NEITHER, NONE, false);
        fillKinds(x, KINDS - 1);
        int last = x.kind(NEITHER, NEITHER, false);
        int[] types = {INT, NULL, VARIABLE, OBJECT, BOX, x.parameter(first, 0), x.parameter(last, 0),
            x.parameter(last, 1), x.of(12, 0, 0), x.of(last, ANY, ANY)};
        int[] due = {1, 2, 3, 50, 51, 14, 36, 37, 62, (63 * 31 + 7) * 31 + 7};
        for (int k = 0; k < types.length; k++) {
            check.due("CODE of " + types[k], codeOf(x, types[k]), due[k]);
        }
    }

    /** "each time the rest when divided by 99991": 99990 stays, 99991 is 0, of a CLASS and of an ARRAY. */
    private void codeRests() {
        BoundWright x = new BoundWright();
        int list = x.kind(NEITHER, NONE, false);
        int pair = x.kind(NEITHER, NEITHER, false);
        int inner = x.of(pair, out(x.of(list, exact(BOX), 0)), exact(OBJECT));
        check.due("99990", codeOf(x, x.of(pair, ANY, out(inner))), 99990);
        check.due("99991", codeOf(x, x.of(pair, ANY, in(inner))), 0);
        check.due("99989", codeOf(x, x.of(pair, ANY, exact(inner))), 99989);
        int other = x.of(pair, out(OBJECT), in(x.of(pair, out(OBJECT), exact(VARIABLE))));
        check.due("an ARRAY, of what", codeOf(x, other), 23527);
        check.due("an ARRAY, 4 times 99991", codeOf(x, x.array(other)), 0);
        int ints = x.array(x.array(x.array(INT)));
        check.due("a small one", codeOf(x, ints), (22 * 17 + 5) * 17 + 5);
        int objects = x.array(x.array(x.array(OBJECT)));
        check.due("an ARRAY of ARRAYS, the rest", codeOf(x, objects), (855 * 17 + 5) * 17 + 5 - 2 * 99991);
    }

    /** KEEPS: "each ARGUMENT that is EXACT or OUT is BELOW the BOUND of its PARAMETER": the BOUND itself, and above. */
    private void keepsEachMode() {
        BoundWright x = new BoundWright();
        int middle = plainType(x);
        int lowest = x.kind(NONE, NONE, false);
        x.extend(lowest, middle);
        int low = x.of(lowest, 0, 0);
        int pair = x.kind(OUT, IN, false);
        x.bound(pair, 0, middle);
        x.bound(pair, 1, middle);
        int[] types = {low, middle, OBJECT};
        for (int k = 0; k < types.length; k++) {
            int exactOrOut = k < 2 ? 1 : 0;
            for (int mode = 0; mode <= 2; mode++) {
                int argument = 3 * types[k] + mode;
                int due = mode == IN ? 1 : exactOrOut;
                check.due("first, mode " + mode + " of " + k, x.ofType(x.of(pair, argument, ANY), 4), due);
                check.due("second, mode " + mode + " of " + k, x.ofType(x.of(pair, ANY, argument), 4), due);
            }
        }
        check.due("VARIABLE is below OBJECT alone", x.ofType(x.of(pair, exact(VARIABLE), ANY), 4), 0);
        x.bound(pair, 0, OBJECT);
        check.due("VARIABLE then", x.ofType(x.of(pair, exact(VARIABLE), ANY), 4), 1);
    }

    /** "A TYPE KEEPS its BOUNDS, if each TYPE in it does": 4 DEEP, in each MODE, and of ARRAYS. */
    private void keepsInWhateverDepth() {
        BoundWright x = new BoundWright();
        int boxes = x.kind(NEITHER, NONE, false);
        int pair = x.kind(NEITHER, NEITHER, false);
        x.bound(boxes, 0, BOX);
        int bad = x.of(boxes, exact(OBJECT), 0);
        int good = x.of(boxes, exact(BOX), 0);
        for (int mode = 0; mode <= 2; mode++) {
            check.due("4 DEEP, not kept, mode " + mode,
                    x.ofType(x.of(pair, exact(BOX), 3 * x.of(pair, 3 * bad + mode, ANY)), 4), 0);
            check.due("4 DEEP, kept, mode " + mode,
                    x.ofType(x.of(pair, exact(BOX), 3 * x.of(pair, 3 * good + mode, ANY)), 4), 1);
        }
        check.due("ARRAYS, not kept", x.ofType(x.array(x.array(bad)), 4), 0);
        check.due("ARRAYS, kept", x.ofType(x.array(x.array(good)), 4), 1);
        int types = x.many(1);
        int parameter = x.parameter(pair, 0);
        x.bound(pair, 1, x.of(pair, exact(parameter), ANY));
        check.due("with what is PUT in that is not told", x.ofType(x.of(pair, exact(BOX), exact(BOX)), 4), 0);
        check.due("it is not told by that", x.many(1), types + 3);
    }

    /** "0 INT, 1 NULL, 2 one of a CLASS, 3 VARIABLE, 4 a PARAMETER, 5 an ARRAY"; "if what is not 0 to 5". */
    private void ofTypeNumbers() {
        BoundWright x = new BoundWright();
        int list = x.kind(NEITHER, NONE, false);
        int parameter = x.parameter(list, 0);
        int array = x.array(parameter);
        int any = x.of(list, ANY, 0);
        int[] due = {0, 1, 2, 2, 3, 4, 5, 2};
        check.due("how many", any, due.length - 1);
        for (int type = 0; type < due.length; type++) {
            int each = type;
            check.due("what " + type + " is", x.ofType(type, 0), due[type]);
            for (int wrong : new int[] {-1, 6, MOST, LEAST}) {
                check.argument("ofType(" + type + ", " + wrong + ")", x, () -> x.ofType(each, wrong));
            }
        }
        for (int none : new int[] {-1, array + 2, TYPES, MOST, LEAST}) {
            check.bounds("ofType(" + none + ", 5)", x, () -> x.ofType(none, 5));
            check.bounds("ofType(" + none + ", -1)", x, () -> x.ofType(none, -1));
        }
    }
}
