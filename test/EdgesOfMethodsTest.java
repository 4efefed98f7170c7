import java.util.Arrays;

/**
 * Terms, sections 4 and 5, and promises 14 to 18: one test for each sentence that names a boundary case.
 */
final class EdgesOfMethodsTest extends Promises {
    public static void main(String[] arguments) {
        EdgesOfMethodsTest test = new EdgesOfMethodsTest();
        test.atMostTwenty();
        test.namesFromNoneToSeven();
        test.upToThreeFormals();
        test.formalsAreTypes();
        test.formalsNotNull();
        test.parametersOfItsClass();
        test.manyHasAnArrayLast();
        test.refusedFirst();
        test.boundOfVariable();
        test.ofMethodNumbers();
        test.overridesInEachWay();
        test.overridesWithBothParameters();
        test.overridesWithArguments();
        test.overridesNoLonger();
        test.overridesOverAllClasses();
        test.membersButOverridden();
        test.membersOfBounds();
        test.callsWithUpToThree();
        test.callNumbers();
        test.phaseOneAndTwo();
        test.formalsAsTheyArePutIn();
        test.intAndBox();
        test.atLeastAllButTheLast();
        test.firstPhaseInWhichOneSuits();
        test.variableFromLeftToRight();
        test.variableOfWhatIsGiven();
        test.variableIsJustObject();
        test.variableBelowItsBound();
        test.variableInItsMode();
        test.variableOfTheReceiver();
        test.moreSpecialThanAll();
        test.moreSpecialForAsManyAsAreGiven();
        test.boundOfVariableIsSpecial();
        test.castNumbers();
        test.check.end();
    }

    // ---- methods

    /** "METHODS: at most 20, numbered from 0", "Throws IllegalStateException if there are 20". */
    private void atMostTwenty() {
        BoundWright x = new BoundWright();
        check.bounds("none is there, ofMethod(0, 0)", x, () -> x.ofMethod(0, 0));
        fillMethods(x, 3, METHODS - 1);
        check.bounds("number 19 is not there yet", x, () -> x.ofMethod(19, 0));
        check.due("the 20th", x.method(1, 3, OBJECT, BOX, INT, BOX, false), 19);
        check.due("how many", x.many(2), METHODS);
        check.due("it has its class", x.ofMethod(19, 0), 1);
        check.due("it has its formals", x.ofMethod(19, 2), 3);
        check.due("the set of the last one", x.members(BOX, 3) >> 19, 1);
        check.due("the set of all", x.members(BOX, 3), (1 << METHODS) - 1);
        check.due("the set without it", x.members(OBJECT, 3), (1 << METHODS - 1) - 1);
        check.due("it is called", x.call(BOX, 3, OBJECT, NULL, INT, 0), 19);
        check.state("a 21st", x, () -> x.method(0, 0, NONE, NONE, NONE, INT, false));
        int boxes = x.array(BOX);
        check.state("a 21st that is MANY", x, () -> x.method(1, 7, boxes, NONE, NONE, BOX, true));
        check.bounds("number 20 is not there", x, () -> x.ofMethod(20, 0));
        check.bounds("nor has it a BOUND", x, () -> x.variable(20, BOX));
        check.bounds("nor is it taken away", x, () -> x.faultsWithout(20));
        check.due("how many still", x.many(2), METHODS);
    }

    /** "with a NAME (0 to 7)", "if name is not 0 to 7": method(), call() and members(). */
    private void namesFromNoneToSeven() {
        BoundWright x = new BoundWright();
        for (int name = 0; name < NAMES; name++) {
            check.due("method() of NAME " + name, x.method(0, name, NONE, NONE, NONE, INT, false), name);
            check.due("its NAME", x.ofMethod(name, 1), name);
        }
        for (int name = 0; name < NAMES; name++) {
            check.due("members() of NAME " + name, x.members(BOX, name), 1 << name);
            check.due("call() of NAME " + name, x.call(BOX, name, NONE, NONE, NONE, 0), name);
        }
        for (int wrong : new int[] {-1, 8, MOST, LEAST}) {
            check.argument("method() of NAME " + wrong, x, () -> x.method(0, wrong, NONE, NONE, NONE, INT, false));
            check.argument("members() of NAME " + wrong, x, () -> x.members(BOX, wrong));
            check.argument("call() of NAME " + wrong, x, () -> x.call(BOX, wrong, NONE, NONE, NONE, 0));
        }
    }

    /** "up to 3 FORMALS", "NONE without one", "a FORMAL stands behind a NONE": each of the eight ways. */
    private void upToThreeFormals() {
        BoundWright x = new BoundWright();
        int told = 0;
        for (int ways = 0; ways < 8; ways++) {
            int first = (ways & 1) != 0 ? INT : NONE;
            int second = (ways & 2) != 0 ? BOX : NONE;
            int third = (ways & 4) != 0 ? OBJECT : NONE;
            if ((ways & ways + 1) == 0) {
                check.due("method() in way " + ways, x.method(0, ways, first, second, third, BOX, false), told);
                check.due("how many FORMALS", x.ofMethod(told, 2), Integer.bitCount(ways));
                check.due("call() in way " + ways, x.call(BOX, ways, first, second, third, 0), told);
                told++;
            } else {
                check.argument("method() in way " + ways, x, () -> x.method(0, 0, first, second, third, BOX, false));
                check.argument("call() in way " + ways, x, () -> x.call(BOX, 0, first, second, third, 0));
            }
        }
        check.due("how many ways", told, 4);
    }

    /** "if there is no such CLASS, or one of the TYPES is none (NONE aside for FORMALS)": the last, and the next. */
    private void formalsAreTypes() {
        BoundWright x = new BoundWright();
        int last = x.array(INT);
        check.due("the last one in each place", x.method(1, 0, last, last, last, last, true), 0);
        for (int none : new int[] {-2, last + 1, TYPES, MOST, LEAST}) {
            check.bounds("first " + none, x, () -> x.method(0, 0, none, NONE, NONE, INT, false));
            check.bounds("second " + none, x, () -> x.method(0, 0, INT, none, NONE, INT, false));
            check.bounds("third " + none, x, () -> x.method(0, 0, INT, INT, none, INT, false));
            check.bounds("result " + none, x, () -> x.method(0, 0, INT, INT, INT, none, false));
        }
        check.bounds("result NONE", x, () -> x.method(0, 0, INT, INT, INT, NONE, false));
        for (int none : new int[] {-1, 2, KINDS, MOST, LEAST}) {
            check.bounds("class " + none, x, () -> x.method(none, 0, INT, INT, INT, INT, false));
        }
    }

    /** "FORMALS and RESULT not NULL", "one of them or the RESULT is NULL": in each place; INT may be. */
    private void formalsNotNull() {
        BoundWright x = new BoundWright();
        check.argument("the only FORMAL", x, () -> x.method(0, 0, NULL, NONE, NONE, INT, false));
        check.argument("the first FORMAL", x, () -> x.method(0, 0, NULL, INT, INT, INT, false));
        check.argument("the second FORMAL", x, () -> x.method(0, 0, INT, NULL, INT, INT, false));
        check.argument("the third FORMAL", x, () -> x.method(0, 0, INT, INT, NULL, INT, false));
        check.argument("the RESULT", x, () -> x.method(0, 0, INT, INT, INT, NULL, false));
        check.argument("the RESULT without FORMALS", x, () -> x.method(0, 0, NONE, NONE, NONE, NULL, false));
        check.due("all INT", x.method(0, 0, INT, INT, INT, INT, false), 0);
        check.due("all VARIABLE", x.method(0, 0, VARIABLE, VARIABLE, VARIABLE, VARIABLE, false), 1);
    }

    /** "TYPES with no PARAMETERS but those of its CLASS": both of its own; of another one in no place nor depth. */
    private void parametersOfItsClass() {
        BoundWright x = new BoundWright();
        int pair = x.kind(NEITHER, NEITHER, false);
        int low = x.kind(NEITHER, NEITHER, false);
        int first = x.parameter(pair, 0);
        int second = x.parameter(pair, 1);
        int both = x.of(low, in(first), exact(x.array(x.array(second))));
        x.extend(low, x.of(pair, ANY, ANY));
        check.due("both of its own, 4 DEEP", x.method(pair, 0, first, second, both, both, false), 0);
        int mixed = x.of(pair, exact(first), exact(x.parameter(low, 1)));
        for (int kind : new int[] {0, 1, low}) {
            for (int wrong : new int[] {first, second, both, mixed}) {
                String what = " " + wrong + " of " + kind;
                check.argument("first" + what, x, () -> x.method(kind, 0, wrong, INT, INT, INT, false));
                check.argument("second" + what, x, () -> x.method(kind, 0, INT, wrong, INT, INT, false));
                check.argument("third" + what, x, () -> x.method(kind, 0, INT, INT, wrong, INT, false));
                check.argument("result" + what, x, () -> x.method(kind, 0, INT, INT, INT, wrong, false));
            }
        }
        check.argument("one of its own and one of another", x, () -> x.method(pair, 0, mixed, NONE, NONE, INT, false));
    }

    /** "It can be MANY: then its last FORMAL is an ARRAY", "and has no last FORMAL that is an ARRAY". */
    private void manyHasAnArrayLast() {
        BoundWright x = new BoundWright();
        int ints = x.array(INT);
        check.argument("none", x, () -> x.method(0, 0, NONE, NONE, NONE, INT, true));
        check.argument("one", x, () -> x.method(0, 0, BOX, NONE, NONE, ints, true));
        check.argument("two, the first is", x, () -> x.method(0, 0, ints, BOX, NONE, ints, true));
        check.argument("three, the first two are", x, () -> x.method(0, 0, ints, ints, VARIABLE, ints, true));
        check.due("one is", x.method(0, 0, ints, NONE, NONE, INT, true), 0);
        check.due("the second of two is", x.method(0, 1, BOX, ints, NONE, INT, true), 1);
        check.due("the third of three is", x.method(0, 2, BOX, BOX, ints, INT, true), 2);
        check.due("an ARRAY of ARRAYS is", x.method(0, 3, x.array(ints), NONE, NONE, INT, true), 3);
        check.due("not MANY, with one", x.method(0, 4, ints, NONE, NONE, INT, false), 4);
        called("not MANY is not", x, OBJECT, 4, given(INT), NONE);
        called("MANY is", x, OBJECT, 0, given(INT), 0, 3, 1, 50);
    }

    /** "the one that is named first": no CLASS or TYPE, then what is no METHOD, then that there are 20. */
    private void refusedFirst() {
        BoundWright x = new BoundWright();
        fillMethods(x, 0, METHODS);
        check.bounds("no class", x, () -> x.method(2, 8, NONE, INT, NONE, NULL, true));
        check.bounds("no first, with no NAME", x, () -> x.method(0, 8, 5, NONE, NONE, NULL, true));
        check.bounds("no second, behind NONE", x, () -> x.method(0, 0, NONE, 5, NONE, NULL, true));
        check.bounds("no third, behind NONE", x, () -> x.method(0, 0, NONE, NONE, -2, NULL, true));
        check.bounds("no result, a gap", x, () -> x.method(0, -1, NONE, INT, NONE, NONE, true));
        check.argument("no NAME", x, () -> x.method(0, 8, NONE, NONE, NONE, INT, false));
        check.argument("a gap", x, () -> x.method(0, 7, NONE, INT, NONE, INT, false));
        check.argument("NULL", x, () -> x.method(0, 7, NULL, NONE, NONE, INT, false));
        check.argument("MANY of none", x, () -> x.method(0, 7, NONE, NONE, NONE, INT, true));
        check.state("20 are there", x, () -> x.method(0, 7, NONE, NONE, NONE, INT, false));
        check.bounds("call() on no type", x, () -> x.call(5, 8, NONE, INT, NONE, 5));
        check.bounds("call() with no first", x, () -> x.call(OBJECT, 8, -2, NONE, NONE, 5));
        check.bounds("call() with no second", x, () -> x.call(OBJECT, -1, NONE, 5, NONE, -1));
        check.bounds("call() with no third", x, () -> x.call(OBJECT, 0, NONE, NONE, 5, 0));
        check.bounds("variable() of no method, with INT", x, () -> x.variable(METHODS, INT));
        check.bounds("variable() of no type", x, () -> x.variable(19, 5));
        check.bounds("members() of no type", x, () -> x.members(5, 8));
        check.bounds("ofMethod() of none", x, () -> x.ofMethod(METHODS, 6));
    }

    /** "and a BOUND of the VARIABLE (CLOSED)", "if type is not CLOSED, or not one of a CLASS"; "(OBJECT, at first)". */
    private void boundOfVariable() {
        BoundWright x = new BoundWright();
        int pair = x.kind(NEITHER, NEITHER, false);
        int parameter = x.parameter(pair, 1);
        fillMethods(x, 0, METHODS);
        int deep = x.of(pair, ANY, in(x.array(x.array(INT))));
        int before = OBJECT;
        for (int type : new int[] {BOX, OBJECT, x.of(pair, ANY, ANY), deep}) {
            check.due("variable(19, " + type + ")", x.variable(19, type), before);
            check.due("variable(19, " + type + ") again", x.variable(19, type), type);
            before = type;
        }
        int[] wrong = {INT, NULL, VARIABLE, parameter, x.array(BOX), x.of(pair, exact(BOX), out(parameter)),
            x.of(pair, in(VARIABLE), ANY), x.of(pair, ANY, exact(x.array(x.array(parameter))))};
        for (int each : wrong) {
            check.argument("variable(19, " + each + ")", x, () -> x.variable(19, each));
        }
        int last = x.many(1) - 1;
        check.argument("the last type that there is", x, () -> x.variable(0, last));
        for (int none : new int[] {-1, last + 1, MOST, LEAST}) {
            check.bounds("variable(0, " + none + ")", x, () -> x.variable(0, none));
        }
        check.due("that of the first one", x.variable(0, BOX), OBJECT);
        check.due("that of the last one stays", x.variable(19, BOX), deep);
    }

    /** "0 its CLASS, 1 its NAME, 2 how many FORMALS, ...", "if what is not 0 to 5": of the last METHOD. */
    private void ofMethodNumbers() {
        BoundWright x = new BoundWright();
        fillKinds(x, KINDS);
        fillMethods(x, 7, METHODS - 1);
        x.method(13, 7, NONE, NONE, NONE, x.array(x.array(x.array(VARIABLE))), false);
        x.variable(19, x.of(13, 0, 0));
        int[] due = {13, 7, 0, (1 << 19) - 1, 3013, 1};
        for (int what = 0; what < due.length; what++) {
            check.due("ofMethod(19, " + what + ")", x.ofMethod(19, what), due[what]);
        }
        for (int wrong : new int[] {-1, 6, MOST, LEAST}) {
            check.argument("ofMethod(19, " + wrong + ")", x, () -> x.ofMethod(19, wrong));
            check.bounds("ofMethod(20, " + wrong + ")", x, () -> x.ofMethod(20, wrong));
            check.bounds("ofMethod(-1, " + wrong + ")", x, () -> x.ofMethod(-1, wrong));
        }
    }

    /** "of a CLASS ABOVE its own: the same NAME, as many FORMALS, and each the same": one less is not enough. */
    private void overridesInEachWay() {
        BoundWright x = new BoundWright();
        int low = x.kind(NONE, NONE, false);
        int other = x.kind(NONE, NONE, false);
        int plain = x.method(0, 0, BOX, INT, OBJECT, INT, false);
        int own = x.method(low, 0, BOX, INT, OBJECT, INT, false);
        check.due("of a CLASS ABOVE", x.ofMethod(own, 3), 1 << plain);
        int[] formals = {BOX, INT, OBJECT};
        for (int place = 0; place < 3; place++) {
            int[] changed = formals.clone();
            changed[place] = VARIABLE;
            int method = x.method(low, 0, changed[0], changed[1], changed[2], INT, false);
            check.due("another FORMAL in place " + place, x.ofMethod(method, 3), 0);
        }
        check.due("another NAME", x.ofMethod(x.method(low, 1, BOX, INT, OBJECT, INT, false), 3), 0);
        check.due("one FORMAL less", x.ofMethod(x.method(low, 0, BOX, INT, NONE, INT, false), 3), 0);
        check.due("another RESULT", x.ofMethod(x.method(low, 0, BOX, INT, OBJECT, BOX, false), 3), 1 << plain);
        check.due("of another CLASS", x.ofMethod(x.method(other, 0, BOX, INT, OBJECT, INT, false), 3), 1 << plain);
        check.due("not that of a CLASS below", x.ofMethod(plain, 3), 0);
        int none = x.method(0, 2, NONE, NONE, NONE, INT, false);
        check.due("without FORMALS", x.ofMethod(x.method(1, 2, NONE, NONE, NONE, INT, false), 3), 1 << none);
    }

    /** "if the ARGUMENTS of the own CLASS, with its PARAMETERS as ARGUMENTS, EXACT, AS the other CLASS, are PUT". */
    private void overridesWithBothParameters() {
        BoundWright x = new BoundWright();
        int pair = x.kind(NEITHER, NEITHER, false);
        int between = x.kind(NEITHER, NEITHER, false);
        int low = x.kind(NEITHER, NEITHER, false);
        int pairFirst = x.parameter(pair, 0);
        int pairSecond = x.parameter(pair, 1);
        int lowFirst = x.parameter(low, 0);
        int lowSecond = x.parameter(low, 1);
        x.extend(low, x.of(pair, exact(lowSecond), exact(lowFirst)));
        int both = x.method(pair, 0, pairFirst, pairSecond, NONE, pairSecond, false);
        int same = x.method(low, 0, lowFirst, lowSecond, NONE, lowFirst, false);
        int turned = x.method(low, 0, lowSecond, lowFirst, NONE, lowFirst, false);
        check.due("as they stand", x.ofMethod(same, 3), 0);
        check.due("turned", x.ofMethod(turned, 3), 1 << both);
        check.due("its RESULT, turned, is the same: no FAULT 5", x.ofKind(low, 7), 2);
        check.due("what overrides none is ERASED to what is above", x.fault(0, 0), 4);
        check.due("those two are ERASED alike", x.fault(1, 0), 4);
        int worse = x.method(low, 0, lowSecond, lowFirst, NONE, lowSecond, false);
        check.due("another RESULT", x.fault(3, 0), 5);
        check.due("of that METHOD", x.fault(3, 2), worse);
        x.bound(low, 0, x.of(low, exact(lowSecond), exact(lowFirst)));
        check.due("a bridge, for the first one's BOUND", x.ofMethod(turned, 5), 1);
        check.due("no bridge of what overrides none", x.ofMethod(same, 5), 0);
        check.due("a class between has none", x.ofKind(between, 5), 0);
    }

    /** The PARAMETERS are ARGUMENTS, EXACT: also where they are PUT into ARGUMENTS, the second one, too. */
    private void overridesWithArguments() {
        BoundWright x = new BoundWright();
        int pair = x.kind(NEITHER, NEITHER, false);
        int low = x.kind(NEITHER, NEITHER, false);
        int first = x.parameter(low, 0);
        int second = x.parameter(low, 1);
        x.extend(low, x.of(pair, exact(first), exact(second)));
        int upper = x.of(pair, exact(x.parameter(pair, 1)), exact(x.parameter(pair, 0)));
        int turned = x.of(pair, exact(second), exact(first));
        int plain = x.of(pair, exact(first), exact(second));
        int others = x.of(pair, out(second), exact(first));
        int above = x.method(pair, 0, upper, NONE, NONE, INT, false);
        check.due("turned as there", x.ofMethod(x.method(low, 0, turned, NONE, NONE, INT, false), 3), 1 << above);
        check.due("not turned", x.ofMethod(x.method(low, 0, plain, NONE, NONE, INT, false), 3), 0);
        check.due("another MODE", x.ofMethod(x.method(low, 0, others, NONE, NONE, INT, false), 3), 0);
        int array = x.method(pair, 1, x.array(x.array(x.parameter(pair, 1))), NONE, NONE, INT, false);
        int same = x.array(x.array(second));
        check.due("ARRAYS", x.ofMethod(x.method(low, 1, same, NONE, NONE, INT, false), 3), 1 << array);
        check.due("ARRAYS of the other one", x.ofMethod(x.method(low, 1, x.array(x.array(first)), NONE, NONE, INT,
                false), 3), 0);
    }

    /** OVERRIDES "AS the other CLASS": by the first way, which can be another one when more is told. */
    private void overridesNoLonger() {
        BoundWright x = new BoundWright();
        int list = x.kind(NEITHER, NONE, false);
        int one = x.kind(NONE, NONE, false);
        int other = x.kind(NONE, NONE, false);
        int low = x.kind(NONE, NONE, false);
        x.extend(low, x.of(one, 0, 0));
        x.extend(low, x.of(other, 0, 0));
        x.extend(other, x.of(list, exact(BOX), 0));
        int above = x.method(list, 0, x.parameter(list, 0), NONE, NONE, BOX, false);
        int own = x.method(low, 0, BOX, NONE, NONE, OBJECT, false);
        check.due("by the only way", x.ofMethod(own, 3), 1 << above);
        check.due("one BRIDGE", x.ofMethod(own, 5), 1);
        check.due("FAULT 5", x.many(3), 1);
        check.due("it is the only MEMBER", x.members(x.of(low, 0, 0), 0), 1 << own);
        x.extend(one, x.of(list, exact(OBJECT), 0));
        check.due("by the first way", x.ofMethod(own, 3), 0);
        check.due("no BRIDGE", x.ofMethod(own, 5), 0);
        faults("1 then", x, 1, low, NONE);
        check.due("both are MEMBERS", x.members(x.of(low, 0, 0), 0), (1 << above) + (1 << own));
    }

    /** OVERRIDES over 12 CLASSES: 19 others, and all BRIDGES of one METHOD "that are ERASED alike count once". */
    private void overridesOverAllClasses() {
        BoundWright x = new BoundWright();
        for (int kind = 2; kind < KINDS; kind++) {
            x.kind(NONE, NONE, false);
            if (kind > 2) {
                x.extend(kind, x.of(kind - 1, 0, 0));
            }
        }
        for (int method = 0; method < METHODS - 1; method++) {
            x.method(method % 13 == 1 ? 0 : method % 13, 0, BOX, NONE, NONE, method % 2 == 0 ? OBJECT : BOX, false);
        }
        int last = x.method(13, 0, BOX, NONE, NONE, INT, false);
        check.due("all others", x.ofMethod(last, 3), (1 << METHODS - 1) - 1);
        check.due("two BRIDGES", x.ofMethod(last, 5), 2);
        check.due("it alone is a MEMBER", x.members(x.of(13, 0, 0), 0), 1 << last);
        check.due("FAULT 5 once", x.fault(x.many(3) - 1, 0) == 5 && x.fault(x.many(3) - 2, 2) != last, true);
        check.due("how many MEMBERS of OBJECT", x.ofKind(0, 5), 4);
        check.due("BOX is not above them", x.ofKind(1, 5), 4);
    }

    /** "but those that a METHOD of it, or of one of these CLASSES, OVERRIDES". */
    private void membersButOverridden() {
        BoundWright x = new BoundWright();
        int upper = x.kind(NONE, NONE, false);
        int side = x.kind(NONE, NONE, false);
        int low = x.kind(NONE, NONE, false);
        int object = x.method(0, 0, BOX, NONE, NONE, INT, false);
        x.extend(low, x.of(upper, 0, 0));
        int lowType = x.of(low, 0, 0);
        check.due("as it is", x.members(lowType, 0), 1 << object);
        int aside = x.method(side, 0, BOX, NONE, NONE, INT, false);
        check.due("a METHOD of a CLASS that is not above", x.members(lowType, 0), 1 << object);
        check.due("that is one there", x.members(x.of(side, 0, 0), 0), 1 << aside);
        int middle = x.method(upper, 0, BOX, NONE, NONE, INT, false);
        check.due("a METHOD of a CLASS above", x.members(lowType, 0), 1 << middle);
        x.extend(low, x.of(side, 0, 0));
        check.due("two that do not override one another", x.members(lowType, 0), (1 << middle) + (1 << aside));
        int own = x.method(low, 0, BOX, NONE, NONE, INT, false);
        check.due("a METHOD of it", x.members(lowType, 0), 1 << own);
        check.due("the others stay what they were", x.members(x.of(upper, 0, 0), 0), 1 << middle);
        check.due("OBJECT's, too", x.members(OBJECT, 0), 1 << object);
    }

    /** "Those of a PARAMETER are those of its BOUND; of all else those of OBJECT". */
    private void membersOfBounds() {
        BoundWright x = new BoundWright();
        int pair = x.kind(NEITHER, NEITHER, false);
        int first = x.parameter(pair, 0);
        int second = x.parameter(pair, 1);
        int object = x.method(0, 0, NONE, NONE, NONE, INT, false);
        int box = x.method(1, 0, OBJECT, NONE, NONE, INT, false);
        int own = x.method(pair, 0, first, second, NONE, second, false);
        x.bound(pair, 0, BOX);
        x.bound(pair, 1, x.of(pair, exact(second), exact(BOX)));
        int[] types = {INT, NULL, OBJECT, VARIABLE, x.array(BOX), x.array(second), BOX, first, second};
        int[] due = {1, 1, 1, 1, 1, 1, 3, 3, 5};
        for (int k = 0; k < types.length; k++) {
            check.due("members(" + types[k] + ", 0)", x.members(types[k], 0), due[k]);
            check.due("ofType(" + types[k] + ", 5)", x.ofType(types[k], 5), Integer.bitCount(due[k]));
        }
        check.due("their numbers", object == 0 && box == 1 && own == 2, true);
        called("on the PARAMETER, the ARGUMENTS of its BOUND", x, second, 0, given(second, BOX), own, 1, 51, 50, 1);
        check.due("ERASED to its BOUND", x.ofMethod(own, 4), pair);
        called("on the other PARAMETER", x, first, 0, given(first), box, 1, 1, 50);
        for (int none : new int[] {-1, x.many(1), TYPES, MOST, LEAST}) {
            check.bounds("members(" + none + ", 7)", x, () -> x.members(none, 7));
        }
    }

    // ---- calls

    /** "A CALL of a NAME on a TYPE with up to 3 TYPES": as many as FORMALS, and the last TYPE that there is. */
    private void callsWithUpToThree() {
        BoundWright x = new BoundWright();
        int last = x.array(BOX);
        int[] all = {last, INT, NULL};
        x.method(0, 0, NONE, NONE, NONE, last, false);
        x.method(0, 0, last, NONE, NONE, last, false);
        x.method(0, 0, last, INT, NONE, last, false);
        x.method(0, 0, last, INT, BOX, last, false);
        for (int count = 0; count <= 3; count++) {
            int[] some = new int[count];
            System.arraycopy(all, 0, some, 0, count);
            called("with " + count, x, last, 0, some, count, 1, codeOfArray(51), 50);
        }
        for (int none : new int[] {-2, last + 1, TYPES, MOST, LEAST}) {
            check.bounds("first " + none, x, () -> x.call(OBJECT, 0, none, NONE, NONE, 0));
            check.bounds("second " + none, x, () -> x.call(OBJECT, 0, INT, none, NONE, 0));
            check.bounds("third " + none, x, () -> x.call(OBJECT, 0, INT, INT, none, 0));
        }
        for (int none : new int[] {NONE, last + 1, MOST, LEAST}) {
            check.bounds("on " + none, x, () -> x.call(none, 0, NONE, NONE, NONE, 0));
        }
    }

    /** "0 the METHOD that is CHOSEN; NONE, if none SUITS, -2, if it is AMBIGUOUS; ... NONE, if none is CHOSEN". */
    private void callNumbers() {
        BoundWright x = new BoundWright();
        called("there is none", x, OBJECT, 0, given(), NONE);
        int first = x.method(0, 0, NONE, NONE, NONE, BOX, false);
        called("there is one", x, OBJECT, 0, given(), first, 1, 51, 50);
        called("it does not suit", x, OBJECT, 0, given(BOX), NONE);
        called("of another NAME", x, OBJECT, 1, given(), NONE);
        x.method(0, 0, NONE, NONE, NONE, INT, false);
        called("there are two", x, OBJECT, 0, given(), AMBIGUOUS);
        for (int wrong : new int[] {-1, 5, MOST, LEAST}) {
            check.argument("what " + wrong, x, () -> x.call(OBJECT, 0, NONE, NONE, NONE, wrong));
            check.argument("what " + wrong + ", none suits", x, () -> x.call(OBJECT, 1, NONE, NONE, NONE, wrong));
        }
    }

    /** "1: as many FORMALS, each given TYPE BELOW its FORMAL. 2: as many, and besides INT, if BOX is BELOW ...". */
    private void phaseOneAndTwo() {
        BoundWright x = new BoundWright();
        int method = x.method(0, 0, BOX, INT, OBJECT, INT, false);
        called("all below", x, OBJECT, 0, given(BOX, INT, BOX), method, 1, 1, 50);
        called("the first is not", x, OBJECT, 0, given(INT, INT, OBJECT), method, 2, 1, 50);
        called("the second is not", x, OBJECT, 0, given(NULL, BOX, NULL), method, 2, 1, 50);
        called("the third is not", x, OBJECT, 0, given(BOX, INT, INT), method, 2, 1, 50);
        called("none is", x, OBJECT, 0, given(INT, BOX, INT), method, 2, 1, 50);
        called("the first never", x, OBJECT, 0, given(OBJECT, INT, INT), NONE);
        called("the second never", x, OBJECT, 0, given(BOX, NULL, INT), NONE);
        called("less", x, OBJECT, 0, given(BOX, INT), NONE);
    }

    /** "their FORMALS ... with the ARGUMENTS of the TYPE AS their CLASS PUT in": the same as one that is told. */
    private void formalsAsTheyArePutIn() {
        BoundWright x = new BoundWright();
        int list = x.kind(NEITHER, NONE, false);
        int low = x.kind(NONE, NONE, false);
        int array = x.array(x.parameter(list, 0));
        int boxes = x.array(BOX);
        int ofBoxes = x.of(list, exact(boxes), 0);
        x.extend(low, x.of(list, exact(BOX), 0));
        int plain = x.method(list, 0, array, NONE, NONE, INT, false);
        int inside = x.method(list, 1, x.of(list, exact(array), 0), NONE, NONE, INT, false);
        int lowType = x.of(low, 0, 0);
        called("an ARRAY", x, lowType, 0, given(boxes), plain, 1, 1, 50);
        called("another ARRAY", x, lowType, 0, given(x.array(OBJECT)), NONE);
        called("an ARRAY as an ARGUMENT", x, lowType, 1, given(ofBoxes), inside, 1, 1, 50);
        called("another ARRAY as an ARGUMENT", x, lowType, 1, given(x.of(list, exact(x.array(OBJECT)), 0)), NONE);
        called("OUT of it", x, lowType, 1, given(x.of(list, out(boxes), 0)), NONE);
    }

    /** "INT, if BOX is BELOW the FORMAL, and what is BELOW BOX (but NULL), if that is INT". */
    private void intAndBox() {
        BoundWright x = new BoundWright();
        int list = x.kind(NEITHER, NONE, false);
        int parameter = x.parameter(list, 0);
        x.bound(list, 0, BOX);
        int any = x.of(list, ANY, 0);
        int[] types = {INT, NULL, OBJECT, BOX, VARIABLE, parameter, x.array(INT), any};
        int[] phasesForInt = {1, NONE, NONE, 2, NONE, 2, NONE, NONE};
        x.method(0, 0, INT, NONE, NONE, INT, false);
        int[] formals = {OBJECT, BOX, any, types[6]};
        int[] phasesOfInt = {2, 2, NONE, NONE};
        for (int k = 0; k < formals.length; k++) {
            x.method(0, 1 + k, formals[k], NONE, NONE, INT, false);
            check.due("INT for " + formals[k], x.call(OBJECT, 1 + k, INT, NONE, NONE, 1), phasesOfInt[k]);
        }
        for (int k = 0; k < types.length; k++) {
            check.due(types[k] + " for INT", x.call(OBJECT, 0, types[k], NONE, NONE, 1), phasesForInt[k]);
        }
        x.method(list, 5, parameter, NONE, NONE, INT, false);
        check.due("INT for a PARAMETER of BOX", x.call(parameter, 5, INT, NONE, NONE, 1), NONE);
        x.method(list, 6, parameter, NONE, NONE, INT, false);
        check.due("INT for BOX in place of it", x.call(x.of(list, exact(BOX), 0), 6, INT, NONE, NONE, 1), 2);
    }

    /** "3: MANY, and at least as many given as FORMALS but the last one". */
    private void atLeastAllButTheLast() {
        BoundWright x = new BoundWright();
        int boxes = x.array(BOX);
        for (int count = 1; count <= 3; count++) {
            int[] formals = {count == 1 ? boxes : OBJECT, count == 2 ? boxes : OBJECT, boxes};
            x.method(0, count, formals[0], count > 1 ? formals[1] : NONE, count > 2 ? formals[2] : NONE, INT, true);
            for (int given = 0; given <= 3; given++) {
                int[] types = new int[given];
                Arrays.fill(types, INT);
                boolean suits = given >= count - 1;
                called(count + " FORMALS, " + given + " given", x, OBJECT, count, types, suits ? count - 1 : NONE,
                        suits ? 3 : NONE, suits ? 1 : NONE, suits ? 50 : NONE);
            }
        }
        called("the rest, as in 2, too", x, OBJECT, 2, given(INT, INT, BOX), 1, 3, 1, 50);
        called("the rest that is not", x, OBJECT, 2, given(INT, INT, OBJECT), NONE);
        called("to the others as in 2", x, OBJECT, 3, given(INT, OBJECT, NULL), 2, 2, 1, 50);
        int ints = x.array(INT);
        int many = x.method(0, 4, OBJECT, ints, NONE, INT, true);
        called("INT, of which the last one is an ARRAY", x, OBJECT, 4, given(INT, BOX, INT), many, 3, 1, 50);
        called("NULL is none", x, OBJECT, 4, given(INT, BOX, NULL), NONE);
        called("NULL is the ARRAY itself", x, OBJECT, 4, given(BOX, NULL), many, 1, 1, 50);
    }

    /** "in the first phase in which one does": a later phase is not asked, also if none is CHOSEN in that one. */
    private void firstPhaseInWhichOneSuits() {
        BoundWright x = new BoundWright();
        int boxes = x.array(BOX);
        int many = x.method(0, 0, boxes, NONE, NONE, INT, true);
        called("the third one", x, OBJECT, 0, given(INT), many, 3, 1, 50);
        int second = x.method(0, 0, OBJECT, NONE, NONE, INT, false);
        called("the second one", x, OBJECT, 0, given(INT), second, 2, 1, 50);
        called("the first one", x, OBJECT, 0, given(BOX), second, 1, 1, 50);
        x.method(0, 0, OBJECT, NONE, NONE, INT, false);
        called("the second one is AMBIGUOUS", x, OBJECT, 0, given(INT), AMBIGUOUS);
        int first = x.method(0, 0, INT, NONE, NONE, INT, false);
        called("the first one again", x, OBJECT, 0, given(INT), first, 1, 1, 50);
        called("the first one is AMBIGUOUS", x, OBJECT, 0, given(OBJECT), AMBIGUOUS);
        called("only the third one", x, OBJECT, 0, given(INT, INT), many, 3, 1, 50);
    }

    /** "the JOIN of all that is given to these, from left to right". */
    private void variableFromLeftToRight() {
        BoundWright x = new BoundWright();
        int smaller = x.kind(NONE, NONE, false);
        int greater = x.kind(NONE, NONE, false);
        int one = x.kind(NONE, NONE, false);
        int two = x.kind(NONE, NONE, false);
        int three = x.kind(NONE, NONE, false);
        int[] both = {one, two};
        for (int kind : both) {
            x.extend(kind, x.of(smaller, 0, 0));
            x.extend(kind, x.of(greater, 0, 0));
        }
        x.extend(three, x.of(greater, 0, 0));
        int first = x.of(one, 0, 0);
        int second = x.of(two, 0, 0);
        int third = x.of(three, 0, 0);
        x.method(0, 0, VARIABLE, VARIABLE, VARIABLE, VARIABLE, false);
        x.method(0, 1, x.array(VARIABLE), NONE, NONE, VARIABLE, true);
        for (int name = 0; name < 2; name++) {
            int phase = name == 0 ? 1 : 3;
            int code = 50 + greater;
            int other = 50 + smaller;
            called("two at first", x, OBJECT, name, given(first, second, third), name, phase, 50, 50);
            called("two at last", x, OBJECT, name, given(third, first, second), name, phase, code, code, greater);
            called("between", x, OBJECT, name, given(first, third, second), name, phase, code, code, greater);
            called("NULL at first", x, OBJECT, name, given(NULL, second, first), name, phase, other, other, smaller);
        }
    }

    /** "if FORMALS (in phase 3 that of which the last one is an ARRAY) are just the VARIABLE"; "later it is BOX". */
    private void variableOfWhatIsGiven() {
        BoundWright x = new BoundWright();
        int array = x.array(VARIABLE);
        int boxes = x.array(BOX);
        int both = x.method(0, 0, VARIABLE, array, NONE, VARIABLE, true);
        called("an ARRAY of it is not just it in phase 1", x, OBJECT, 0, given(BOX, boxes), both, 1, 51, 51, 1);
        called("nor in phase 2", x, OBJECT, 0, given(INT, boxes), both, 2, 51, 51, 1);
        called("it is in phase 3", x, OBJECT, 0, given(INT, NULL), both, 1 + 1, 51, 51, 1);
        called("it is in phase 3, of both", x, OBJECT, 0, given(BOX, OBJECT), both, 3, 50, 50);
        called("it is in phase 3, of none", x, OBJECT, 0, given(INT), both, 3, 51, 51, 1);
        int plain = x.method(0, 1, OBJECT, VARIABLE, NONE, VARIABLE, false);
        called("what is given to others is not asked", x, OBJECT, 1, given(boxes, BOX), plain, 1, 51, 51, 1);
        called("in phase 1 no INT suits it", x, OBJECT, 1, given(boxes, INT), plain, 2, 51, 51, 1);
        called("just NULL", x, OBJECT, 1, given(NULL, NULL), plain, 1, 2, 2, 101);
    }

    /** "otherwise, also if nothing is given to these, OBJECT". */
    private void variableIsJustObject() {
        BoundWright x = new BoundWright();
        int list = x.kind(NEITHER, NONE, false);
        int ofVariable = x.of(list, out(VARIABLE), 0);
        int array = x.array(VARIABLE);
        int none = x.method(0, 0, NONE, NONE, NONE, VARIABLE, false);
        int inside = x.method(0, 1, ofVariable, array, NONE, VARIABLE, false);
        int many = x.method(0, 2, OBJECT, array, NONE, VARIABLE, true);
        int ofBox = x.of(list, exact(BOX), 0);
        called("without FORMALS", x, OBJECT, 0, given(), none, 1, 50, 50);
        called("inside of FORMALS", x, OBJECT, 1, given(ofBox, x.array(BOX)), inside, 1, 50, 50);
        called("nothing is given to it", x, OBJECT, 2, given(BOX), many, 3, 50, 50);
        called("one is given to it", x, OBJECT, 2, given(BOX, BOX), many, 3, 51, 51, 1);
        for (int method = 0; method < 3; method++) {
            x.variable(method, BOX);
        }
        called("without FORMALS, with a BOUND", x, OBJECT, 0, given(), NONE);
        called("inside of FORMALS, with a BOUND", x, OBJECT, 1, given(ofBox, x.array(BOX)), NONE);
        called("nothing is given to it, with a BOUND", x, OBJECT, 2, given(BOX), NONE);
        called("one is given to it, with a BOUND", x, OBJECT, 2, given(BOX, INT), many, 3, 51, 51);
        x.variable(none, OBJECT);
        called("with the BOUND OBJECT again", x, OBJECT, 0, given(), none, 1, 50, 50);
    }

    /** "If it is not BELOW the BOUND, the METHOD does not SUIT": the BOUND itself, what is below, and what is above. */
    private void variableBelowItsBound() {
        BoundWright x = new BoundWright();
        int upper = plainType(x);
        int lower = x.kind(NONE, NONE, false);
        x.extend(lower, upper);
        int low = x.of(lower, 0, 0);
        int method = x.method(0, 0, VARIABLE, VARIABLE, NONE, VARIABLE, false);
        x.variable(method, upper);
        called("the BOUND", x, OBJECT, 0, given(upper, upper), method, 1, 52, 52);
        called("below it", x, OBJECT, 0, given(low, low), method, 1, 53, 53, 3);
        called("the JOIN is the BOUND", x, OBJECT, 0, given(low, upper), method, 1, 52, 52);
        called("above it", x, OBJECT, 0, given(upper, OBJECT), NONE);
        called("the JOIN is above it", x, OBJECT, 0, given(low, BOX), NONE);
        called("BOX is not below it", x, OBJECT, 0, given(INT, INT), NONE);
        called("NULL is", x, OBJECT, 0, given(NULL, NULL), method, 1, 2, 2, 101);
        x.variable(method, low);
        called("above the BOUND then", x, OBJECT, 0, given(low, upper), NONE);
    }

    /** "In FORMALS and RESULT it stands for that (as an ARGUMENT, too, in its MODE), and phases ask by it". */
    private void variableInItsMode() {
        BoundWright x = new BoundWright();
        int list = x.kind(NEITHER, NONE, false);
        int array = x.array(VARIABLE);
        int box = x.of(list, exact(BOX), 0);
        int[] results = {VARIABLE, array, x.of(list, exact(VARIABLE), 0), x.of(list, out(VARIABLE), 0),
            x.of(list, in(VARIABLE), 0), x.of(list, in(array), 0)};
        int[] due = {51, codeOfArray(51), codeOfClass(list, codeOfArgument(51, 0)),
            codeOfClass(list, codeOfArgument(51, 1)), codeOfClass(list, codeOfArgument(51, 2)),
            codeOfClass(list, codeOfArgument(codeOfArray(51), 2))};
        int[] casts = {1, 1001, NONE, NONE, NONE, NONE};
        for (int k = 0; k < results.length; k++) {
            int method = x.method(0, k, VARIABLE, x.of(list, exact(VARIABLE), 0), NONE, results[k], false);
            called("RESULT " + k, x, OBJECT, k, given(BOX, box), method, 1, due[k], 51, casts[k]);
            called("RESULT " + k + ", another FORMAL", x, OBJECT, k, given(OBJECT, box), NONE);
        }
    }

    /** "(wherever it is in FORMALS and RESULT, as the ARGUMENTS are PUT in)". */
    private void variableOfTheReceiver() {
        BoundWright x = new BoundWright();
        int pair = x.kind(NEITHER, NEITHER, false);
        int first = x.parameter(pair, 0);
        int second = x.parameter(pair, 1);
        int method = x.method(pair, 0, first, second, NONE, second, false);
        int on = x.of(pair, exact(VARIABLE), exact(x.array(VARIABLE)));
        called("a FORMAL is just the VARIABLE then", x, on, 0, given(BOX, NULL), method, 1, codeOfArray(51), 51, 1001);
        called("INT is BOX then", x, on, 0, given(INT, x.array(BOX)), method, 2, codeOfArray(51), 51, 1001);
        called("it is not just it", x, x.of(pair, ANY, exact(x.array(VARIABLE))), 0, given(BOX, NULL), method, 1,
                codeOfArray(50), 50, 1000);
        x.variable(method, BOX);
        called("by its BOUND", x, on, 0, given(OBJECT, NULL), NONE);
        called("OBJECT is not below its BOUND", x, x.of(pair, ANY, ANY), 0, given(BOX, NULL), NONE);
    }

    /** "CHOSEN is the one that is more SPECIAL than all others that SUIT": than 19; "Without just one: AMBIGUOUS". */
    private void moreSpecialThanAll() {
        BoundWright x = new BoundWright();
        int[] types = new int[KINDS];
        for (int kind = 2; kind < KINDS; kind++) {
            types[kind] = plainType(x);
            if (kind > 2) {
                x.extend(kind, types[kind - 1]);
            }
        }
        for (int kind = 2; kind < KINDS; kind++) {
            x.method(0, 0, types[kind], NONE, NONE, INT, false);
        }
        for (int kind = 2; kind < KINDS; kind++) {
            called("the most special of " + (kind - 1), x, OBJECT, 0, given(types[kind]), kind - 2, 1, 1, 50);
        }
        called("NULL", x, OBJECT, 0, given(NULL), 11, 1, 1, 50);
        x.method(0, 0, x.array(BOX), NONE, NONE, INT, false);
        called("NULL, and one that is another", x, OBJECT, 0, given(NULL), AMBIGUOUS);
        x.method(0, 1, OBJECT, BOX, NONE, INT, false);
        x.method(0, 1, BOX, OBJECT, NONE, INT, false);
        int third = x.method(0, 1, OBJECT, OBJECT, NONE, INT, false);
        called("two of three", x, OBJECT, 1, given(BOX, BOX), AMBIGUOUS);
        called("the third alone suits", x, OBJECT, 1, given(OBJECT, OBJECT), third, 1, 1, 50);
        int all = x.method(0, 1, BOX, BOX, NONE, INT, false);
        called("one of four", x, OBJECT, 1, given(BOX, BOX), all, 1, 1, 50);
        x.method(0, 1, BOX, BOX, NONE, INT, false);
        called("twice the same", x, OBJECT, 1, given(BOX, BOX), AMBIGUOUS);
        called("they do not suit", x, OBJECT, 1, given(OBJECT, BOX), 13, 1, 1, 50);
    }

    /** "for as many as are given (in phase 3 that of which the last one is an ARRAY, from there on)". */
    private void moreSpecialForAsManyAsAreGiven() {
        BoundWright x = new BoundWright();
        int objects = x.array(OBJECT);
        int boxes = x.array(BOX);
        int one = x.method(0, 0, objects, NONE, NONE, INT, true);
        int two = x.method(0, 0, BOX, objects, NONE, INT, true);
        int three = x.method(0, 0, BOX, OBJECT, boxes, INT, true);
        called("none is given: one suits", x, OBJECT, 0, given(), one, 3, 1, 50);
        called("one is given: the second", x, OBJECT, 0, given(INT), two, 3, 1, 50);
        called("two are given: the second is as the third", x, OBJECT, 0, given(INT, INT), AMBIGUOUS);
        called("three are given: the third", x, OBJECT, 0, given(INT, INT, INT), three, 3, 1, 50);
        called("three are given, the last is OBJECT", x, OBJECT, 0, given(INT, INT, OBJECT), two, 3, 1, 50);
        x.method(0, 1, objects, NONE, NONE, INT, true);
        x.method(0, 1, boxes, NONE, NONE, INT, true);
        called("none is given: both", x, OBJECT, 1, given(), AMBIGUOUS);
        called("one is given", x, OBJECT, 1, given(BOX), 4, 3, 1, 50);
        called("the ARRAYS themselves in phase 1", x, OBJECT, 1, given(NULL), 4, 1, 1, 50);
    }

    /** "its FORMAL is BELOW that of the other one (the VARIABLE is its BOUND in this)". */
    private void boundOfVariableIsSpecial() {
        BoundWright x = new BoundWright();
        int list = x.kind(NEITHER, NONE, false);
        int plain = x.method(0, 0, BOX, NONE, NONE, INT, false);
        int other = x.method(0, 0, VARIABLE, NONE, NONE, BOX, false);
        called("OBJECT is its BOUND", x, OBJECT, 0, given(BOX), plain, 1, 1, 50);
        x.variable(other, BOX);
        called("BOX is its BOUND", x, OBJECT, 0, given(BOX), AMBIGUOUS);
        int ofVariable = x.of(list, out(VARIABLE), 0);
        int inside = x.method(0, 1, VARIABLE, ofVariable, NONE, INT, false);
        int beside = x.method(0, 1, OBJECT, x.of(list, out(BOX), 0), NONE, INT, false);
        int ofBox = x.of(list, exact(BOX), 0);
        called("inside of it, OBJECT", x, OBJECT, 1, given(BOX, ofBox), beside, 1, 1, 50);
        x.variable(inside, BOX);
        called("inside of it, BOX", x, OBJECT, 1, given(BOX, ofBox), inside, 1, 1, 51);
        called("that does not suit", x, OBJECT, 1, given(OBJECT, ofBox), beside, 1, 1, 50);
    }

    /** "4 the CAST: the ERASED of the RESULT as it is here, if that is not the ERASED of the RESULT as it was told". */
    private void castNumbers() {
        BoundWright x = new BoundWright();
        int list = x.kind(NEITHER, NONE, false);
        int element = x.parameter(list, 0);
        int deep = x.array(x.array(x.array(element)));
        x.method(list, 0, NONE, NONE, NONE, deep, false);
        x.method(list, 1, NONE, NONE, NONE, element, false);
        int ints = x.array(x.array(INT));
        int ofInts = x.of(list, out(ints), 0);
        called("5 ARRAYS of INT", x, ofInts, 0, given(), 0, 1,
                codeOfArray(codeOfArray(codeOfArray(codeOfArray(codeOfArray(1))))), 50, 5100);
        called("2 ARRAYS of INT", x, ofInts, 1, given(), 1, 1, codeOfArray(codeOfArray(1)), 50, 2100);
        called("OBJECT is what it was", x, x.of(list, exact(OBJECT), 0), 1, given(), 1, 1, 50, 50);
        called("on itself", x, x.of(list, exact(element), 0), 1, given(), 1, 1, codeOfParameter(list, 0), 50);
        x.bound(list, 0, BOX);
        called("BOX is what it was", x, x.of(list, exact(BOX), 0), 1, given(), 1, 1, 51, 50);
        called("OBJECT is not what it was", x, x.of(list, ANY, 0), 1, given(), 1, 1, 50, 50, 0);
        int array = x.array(x.array(x.array(VARIABLE)));
        x.method(0, 2, VARIABLE, NONE, NONE, array, false);
        x.method(0, 3, VARIABLE, NONE, NONE, VARIABLE, false);
        int four = x.array(x.array(x.array(BOX)));
        called("6 ARRAYS", x, OBJECT, 2, given(four), 2, 1,
                codeOfArray(codeOfArray(codeOfArray(codeOf(x, four)))), codeOf(x, four), 6001);
        called("ARRAYS of NULL", x, OBJECT, 2, given(NULL), 2, 1, codeOfArray(codeOfArray(codeOfArray(2))), 2, 3101);
        x.variable(3, BOX);
        called("its BOUND", x, OBJECT, 3, given(BOX), 3, 1, 51, 51);
        called("NULL is not its BOUND", x, OBJECT, 3, given(NULL), 3, 1, 2, 2, 101);
    }
}
