import java.io.IOException;
import java.nio.file.Files;
import java.nio.file.Path;

/**
 * What a reading of the document from its first line to its last found without a test of its own: one test for each
 * such sentence, with the sentence in its comment. And README.md: its example does what it says.
 */
final class ReadingTest extends Promises {
    private static final Path README = Path.of("README.md");

    public static void main(String[] arguments) throws IOException {
        ReadingTest test = new ReadingTest();
        test.keepsWithInPutIn();
        test.variableIsBelowObjectAlone();
        test.joinAndMembersByTheFirstWay();
        test.joinOfAParameterInPlaceOfIt();
        test.pairsByWhatIsAbove();
        test.overridesWhateverElse();
        test.erasedAlikeWhateverElse();
        test.membersOfVariable();
        test.manyOfWhatIsNotJustVariable();
        test.variableStandsForNull();
        test.variableOfReceiversInEachMode();
        test.specialByWhatIsPutIn();
        test.specialByTheBoundOfMany();
        test.specialEachBelowTheOther();
        test.resultOnAParameter();
        test.bridgesOfArraysAndResults();
        test.withoutAMethodThatOverrides();
        test.callsWithoutAThirdOne();
        test.readmeTellsTheTruth();
        test.check.end();
    }

    // ---- types

    /** KEEPS: "is BELOW the BOUND of its PARAMETER, with the ARGUMENTS PUT in": with IN, EXACT, OUT and ANY. */
    private void keepsWithInPutIn() {
        BoundWright x = new BoundWright();
        int list = x.kind(NEITHER, NONE, false);
        int low = x.kind(NONE, NONE, false);
        int pair = x.kind(NEITHER, NEITHER, false);
        x.extend(low, x.of(list, exact(OBJECT), 0));
        x.bound(pair, 1, x.of(list, exact(x.parameter(pair, 0)), 0));
        int lowType = x.of(low, 0, 0);
        int[] firsts = {exact(OBJECT), out(OBJECT), in(OBJECT), ANY, exact(BOX), out(BOX), in(BOX)};
        int[] due = {1, 1, 1, 1, 0, 0, 1};
        for (int k = 0; k < firsts.length; k++) {
            check.due("EXACT, first " + firsts[k], x.ofType(x.of(pair, firsts[k], exact(lowType)), 4), due[k]);
            check.due("OUT, first " + firsts[k], x.ofType(x.of(pair, firsts[k], out(lowType)), 4), due[k]);
            check.due("IN, first " + firsts[k], x.ofType(x.of(pair, firsts[k], in(lowType)), 4), 1);
        }
    }

    /** "VARIABLE is BELOW itself and OBJECT alone": also if it has a BOUND in a METHOD, and in ARGUMENTS. */
    private void variableIsBelowObjectAlone() {
        BoundWright x = new BoundWright();
        int list = x.kind(OUT, NONE, false);
        int method = x.method(0, 0, VARIABLE, NONE, NONE, VARIABLE, false);
        x.variable(method, BOX);
        int of = x.of(list, exact(VARIABLE), 0);
        check.due("itself", x.isBelow(VARIABLE, VARIABLE), true);
        check.due("OBJECT", x.isBelow(VARIABLE, OBJECT), true);
        check.due("its BOUND", x.isBelow(VARIABLE, BOX), false);
        check.due("an ARGUMENT, its BOUND", x.isBelow(of, x.of(list, exact(BOX), 0)), false);
        check.due("an ARGUMENT, OBJECT", x.isBelow(of, x.of(list, exact(OBJECT), 0)), true);
        check.due("an ARGUMENT, itself OUT", x.isBelow(of, x.of(list, out(VARIABLE), 0)), true);
        check.due("an ARRAY, its BOUND", x.isBelow(x.array(VARIABLE), x.array(BOX)), false);
        check.due("the JOIN with its BOUND", x.join(VARIABLE, BOX), 50);
        check.due("KEEPS by its BOUND in a METHOD", x.bound(list, 0, BOX), OBJECT);
        check.due("it does not", x.ofType(of, 4), 0);
        check.due("ERASED elsewhere", x.ofType(VARIABLE, 1), 0);
        check.due("ERASED by the METHOD", x.ofMethod(method, 4), 1);
    }

    /** "both AS that", "the ARGUMENTS of the TYPE AS their CLASS PUT in": by "the first TYPE that c EXTENDS". */
    private void joinAndMembersByTheFirstWay() {
        BoundWright x = new BoundWright();
        int list = x.kind(NEITHER, NONE, false);
        int first = x.kind(NONE, NONE, false);
        int second = x.kind(NONE, NONE, false);
        int low = x.kind(NONE, NONE, false);
        int ofBox = x.of(list, exact(BOX), 0);
        int element = x.parameter(list, 0);
        x.extend(first, x.of(list, ANY, 0));
        x.extend(second, ofBox);
        x.extend(low, x.of(second, 0, 0));
        x.extend(low, x.of(first, 0, 0));
        x.method(list, 0, NONE, NONE, NONE, element, false);
        int lowType = x.of(low, 0, 0);
        int firstType = x.of(first, 0, 0);
        check.due("BELOW, by the second class", x.isBelow(lowType, ofBox), true);
        check.due("of one that has just the other way", x.join(lowType, x.of(list, in(BOX), 0)),
                codeOfClass(list, codeOfArgument(51, 2)));
        check.due("JOIN with an ARRAY's list", x.join(lowType, x.of(list, out(x.array(BOX)), 0)),
                codeOfClass(list, codeOfArgument(50, 1)));
        called("the RESULT on it", x, lowType, 0, given(), 0, 1, 51, 50, 1);
        called("the RESULT on the other one", x, firstType, 0, given(), 0, 1, 50, 50);
        check.due("JOIN with the other one: that is above it", x.join(lowType, firstType), 50 + first);
    }

    /** "of INT it is that of BOX, of a PARAMETER that of its BOUND, in place of it": on either side, and on both. */
    private void joinOfAParameterInPlaceOfIt() {
        BoundWright x = new BoundWright();
        int list = x.kind(NEITHER, NONE, false);
        int user = x.kind(NEITHER, NEITHER, false);
        int ofBox = x.of(list, exact(BOX), 0);
        int ofInts = x.of(list, exact(x.array(INT)), 0);
        int first = x.parameter(user, 0);
        int second = x.parameter(user, 1);
        x.bound(user, 0, ofBox);
        x.bound(user, 1, ofInts);
        int due = codeOfClass(list, codeOfArgument(50, 1));
        int[] ones = {ofBox, first};
        int[] others = {ofInts, second};
        for (int one : ones) {
            for (int other : others) {
                check.due("JOIN of " + one + " and " + other, x.join(one, other), due);
                check.due("JOIN of " + other + " and " + one, x.join(other, one), due);
                check.due("of ARRAYS of " + one + " and " + other, x.join(x.array(one), x.array(other)),
                        codeOfArray(due));
            }
        }
        check.due("an ARRAY and a PARAMETER", x.join(x.array(BOX), first), 50);
        check.due("VARIABLE and a PARAMETER", x.join(VARIABLE, first), 50);
        x.bound(user, 0, BOX);
        check.due("INT and a PARAMETER of BOX", x.join(INT, first), 51);
        check.due("INT and one of another class", x.join(second, INT), 50);
        x.bound(user, 1, BOX);
        check.due("two PARAMETERS of BOX", x.join(first, second), 51);
        check.due("a PARAMETER and itself", x.join(first, first), codeOfParameter(user, 0));
    }

    /** pairsWith(): "there would be with that VARIANCE": of what is seen AS that CLASS, and in ARGUMENTS, too. */
    private void pairsByWhatIsAbove() {
        BoundWright x = new BoundWright();
        int list = x.kind(NEITHER, NONE, false);
        int low = x.kind(NEITHER, NONE, false);
        x.extend(low, x.of(list, exact(x.parameter(low, 0)), 0));
        int lowOfBox = x.of(low, exact(BOX), 0);
        int listOfObject = x.of(list, exact(OBJECT), 0);
        int pairs = x.many(6);
        check.due("OUT: <BOX> of low, and <PARAMETER>, are BELOW <OBJECT>", x.pairsWith(list, 0, OUT), pairs + 2);
        check.due("IN: <OBJECT> is BELOW <PARAMETER>", x.pairsWith(list, 0, IN), pairs + 1);
        check.due("OUT of the one below: one alone", x.pairsWith(low, 0, OUT), pairs);
        check.due("still not BELOW", x.isBelow(lowOfBox, listOfObject), false);
        x.of(list, out(lowOfBox), 0);
        x.of(list, out(listOfObject), 0);
        int more = x.many(6);
        check.due("OUT: those two are BELOW <OBJECT>, and one of them BELOW the other one", x.pairsWith(list, 0, OUT),
                more + 2 + 3);
    }

    // ---- methods

    /** OVERRIDES: "the same NAME, as many FORMALS, and each the same": MANY, RESULT and a BOUND are not asked. */
    private void overridesWhateverElse() {
        BoundWright x = new BoundWright();
        int boxes = x.array(BOX);
        int many = x.method(0, 0, boxes, NONE, NONE, INT, true);
        int own = x.method(1, 0, boxes, NONE, NONE, VARIABLE, false);
        check.due("one that is not MANY", x.ofMethod(own, 3), 1 << many);
        check.due("it alone is a MEMBER", x.members(BOX, 0), 1 << own);
        called("it is not MANY", x, BOX, 0, given(BOX), NONE);
        called("that of OBJECT is", x, OBJECT, 0, given(BOX), many, 3, 1, 50);
        int generic = x.method(0, 1, VARIABLE, boxes, NONE, VARIABLE, false);
        int other = x.method(1, 1, VARIABLE, boxes, NONE, VARIABLE, true);
        x.variable(other, BOX);
        check.due("another BOUND, and MANY", x.ofMethod(other, 3), 1 << generic);
        check.due("one BRIDGE by the BOUND", x.ofMethod(other, 5), 1);
        check.due("VARIABLE is BELOW itself: no FAULT 5", x.fault(x.many(3) - 1, 2), own);
        faults("just that of the RESULT", x, 5, 1, own);
    }

    /** FAULT 4: "has the same NAME, and as many FORMALS, each ERASED to the same": MANY and RESULT are not asked. */
    private void erasedAlikeWhateverElse() {
        BoundWright x = new BoundWright();
        int list = x.kind(NEITHER, NONE, false);
        int one = x.array(x.of(list, exact(BOX), 0));
        int other = x.array(x.of(list, ANY, 0));
        int first = x.method(0, 0, one, NONE, NONE, INT, true);
        int second = x.method(0, 0, other, NONE, NONE, BOX, false);
        faults("MANY and not", x, 4, 0, second);
        int third = x.method(list, 0, other, NONE, NONE, OBJECT, true);
        check.due("it overrides one", x.ofMethod(third, 3), 1 << second);
        faults("the other one above", x, 4, 0, second, 4, list, third, 5, list, third);
        check.due("without the one that it overrides", x.faultsWithout(second), 1);
        check.due("without the other one", x.faultsWithout(first), 1);
        check.due("without it", x.faultsWithout(third), 1);
    }

    /** "Those of a PARAMETER are those of its BOUND; of all else those of OBJECT": VARIABLE with a BOUND, too. */
    private void membersOfVariable() {
        BoundWright x = new BoundWright();
        int object = x.method(0, 0, VARIABLE, NONE, NONE, VARIABLE, false);
        int box = x.method(1, 0, NONE, NONE, NONE, INT, false);
        x.variable(object, BOX);
        check.due("of VARIABLE", x.members(VARIABLE, 0), 1 << object);
        check.due("how many", x.ofType(VARIABLE, 5), 1);
        check.due("of BOX", x.members(BOX, 0), (1 << object) + (1 << box));
        called("on VARIABLE", x, VARIABLE, 0, given(), NONE);
        called("on VARIABLE, that of OBJECT", x, VARIABLE, 0, given(BOX), object, 1, 51, 51);
        called("VARIABLE is not BELOW BOX", x, VARIABLE, 0, given(VARIABLE), NONE);
    }

    // ---- calls

    /** "if FORMALS (in phase 3 that of which the last one is an ARRAY) are just the VARIABLE": with it in ARGUMENTS. */
    private void manyOfWhatIsNotJustVariable() {
        BoundWright x = new BoundWright();
        int list = x.kind(NEITHER, NONE, false);
        int array = x.array(x.of(list, exact(VARIABLE), 0));
        int ofBox = x.of(list, exact(BOX), 0);
        int ofObject = x.of(list, exact(OBJECT), 0);
        int both = x.method(0, 0, VARIABLE, array, NONE, VARIABLE, true);
        called("the first one tells it", x, OBJECT, 0, given(BOX, ofBox, ofBox), both, 3, 51, 51, 1);
        called("the rest has to be that", x, OBJECT, 0, given(OBJECT, ofBox), NONE);
        called("one of the rest is another", x, OBJECT, 0, given(BOX, ofBox, ofObject), NONE);
        called("no rest", x, OBJECT, 0, given(ofBox), both, 3, codeOf(x, ofBox), codeOf(x, ofBox), list);
        int many = x.method(0, 1, array, NONE, NONE, VARIABLE, true);
        called("none tells it: OBJECT", x, OBJECT, 1, given(ofObject), many, 3, 50, 50);
        called("not of BOX", x, OBJECT, 1, given(ofBox), NONE);
        x.variable(many, BOX);
        called("OBJECT is not BELOW the BOUND", x, OBJECT, 1, given(ofObject), NONE);
        int arrays = x.array(x.array(VARIABLE));
        int nested = x.method(0, 2, arrays, NONE, NONE, VARIABLE, true);
        called("an ARRAY of it is not just it", x, OBJECT, 2, given(x.array(BOX)), nested, 3, 50, 50);
        called("BOX is no ARRAY", x, OBJECT, 2, given(BOX), NONE);
    }

    /** "In FORMALS and RESULT it stands for that (as an ARGUMENT, too, in its MODE)": NULL, of which just NULL is. */
    private void variableStandsForNull() {
        BoundWright x = new BoundWright();
        int list = x.kind(NEITHER, NONE, false);
        int array = x.array(VARIABLE);
        int[] seconds = {x.of(list, exact(VARIABLE), 0), x.of(list, out(VARIABLE), 0), x.of(list, in(VARIABLE), 0)};
        int ofBox = x.of(list, exact(BOX), 0);
        for (int mode = 0; mode <= 2; mode++) {
            int method = x.method(0, mode, VARIABLE, seconds[mode], NONE, seconds[mode], false);
            int result = codeOfClass(list, codeOfArgument(2, mode));
            called("NULL twice, mode " + mode, x, OBJECT, mode, given(NULL, NULL), method, 1, result, 2);
            if (mode == IN) {
                called("NULL is BELOW BOX", x, OBJECT, mode, given(NULL, ofBox), method, 1, result, 2);
            } else {
                called("BOX is not BELOW NULL, mode " + mode, x, OBJECT, mode, given(NULL, ofBox), NONE);
            }
        }
        int arrays = x.method(0, 3, VARIABLE, array, NONE, array, true);
        called("an ARRAY of NULL", x, OBJECT, 3, given(NULL, NULL), arrays, 1, codeOfArray(2), 2, 1101);
        called("an ARRAY of BOX is none: phase 3", x, OBJECT, 3, given(NULL, x.array(BOX)), arrays, 3,
                codeOfArray(codeOfArray(51)), codeOfArray(51), 2001);
        called("INT is BOX", x, OBJECT, 3, given(NULL, INT), arrays, 3, codeOfArray(51), 51, 1001);
    }

    /** "(wherever it is in FORMALS and RESULT, as the ARGUMENTS are PUT in)": OUT is PUT in, of IN it is OBJECT. */
    private void variableOfReceiversInEachMode() {
        BoundWright x = new BoundWright();
        int list = x.kind(NEITHER, NONE, false);
        int element = x.parameter(list, 0);
        int ofElement = x.of(list, exact(element), 0);
        int plain = x.method(list, 0, element, NONE, NONE, element, false);
        int inside = x.method(list, 1, ofElement, NONE, NONE, ofElement, false);
        int ofBox = x.of(list, exact(BOX), 0);
        int outVariable = x.of(list, out(VARIABLE), 0);
        int inVariable = x.of(list, in(VARIABLE), 0);
        called("OUT: just the VARIABLE", x, outVariable, 0, given(BOX), plain, 1, 51, 51, 1);
        called("IN: OBJECT", x, inVariable, 0, given(BOX), plain, 1, 50, 50);
        called("OUT in an ARGUMENT: OUT of OBJECT", x, outVariable, 1, given(ofBox), inside, 1,
                codeOfClass(list, codeOfArgument(50, 1)), 50);
        called("IN in an ARGUMENT: IN of OBJECT", x, inVariable, 1, given(ofBox), NONE);
        called("ANY in an ARGUMENT", x, x.of(list, ANY, 0), 1, given(ofBox), inside, 1,
                codeOfClass(list, CODE_OF_ANY), 50);
        called("an ARGUMENT of an ARGUMENT is not just it", x, x.of(list, exact(outVariable), 0), 0, given(ofBox),
                plain, 1, codeOfClass(list, codeOfArgument(50, 1)), 50, list);
    }

    /** SPECIAL: "its FORMAL is BELOW that of the other one": with the ARGUMENTS of the TYPE PUT in. */
    private void specialByWhatIsPutIn() {
        BoundWright x = new BoundWright();
        int list = x.kind(NEITHER, NONE, false);
        int element = x.parameter(list, 0);
        int put = x.method(list, 0, element, NONE, NONE, INT, false);
        int box = x.method(list, 0, BOX, NONE, NONE, INT, false);
        int ofBox = x.of(list, exact(BOX), 0);
        int ofVariable = x.of(list, exact(VARIABLE), 0);
        called("OBJECT in place of it", x, x.of(list, ANY, 0), 0, given(BOX), box, 1, 1, 50);
        called("BOX in place of it", x, ofBox, 0, given(BOX), AMBIGUOUS);
        called("VARIABLE in place of it: its BOUND", x, ofVariable, 0, given(BOX), box, 1, 1, 50);
        x.variable(put, BOX);
        called("VARIABLE in place of it, BOX", x, ofVariable, 0, given(BOX), AMBIGUOUS);
        called("OBJECT, with that BOUND, does not SUIT", x, ofBox, 0, given(BOX), box, 1, 1, 50);
        x.variable(put, OBJECT);
        int other = x.method(list, 0, OBJECT, NONE, NONE, INT, false);
        called("the PARAMETER itself", x, x.of(list, exact(element), 0), 0, given(element), put, 1, 1, 50);
        called("OBJECT is BELOW none of them", x, ofBox, 0, given(OBJECT), other, 1, 1, 50);
    }

    /** "(in phase 3 that of which the last one is an ARRAY, from there on)", "(the VARIABLE is its BOUND in this)". */
    private void specialByTheBoundOfMany() {
        BoundWright x = new BoundWright();
        int generic = x.method(0, 0, x.array(VARIABLE), NONE, NONE, VARIABLE, true);
        int boxes = x.method(0, 0, x.array(BOX), NONE, NONE, INT, true);
        called("OBJECT is its BOUND", x, OBJECT, 0, given(BOX, INT), boxes, 3, 1, 50);
        called("just the other one suits", x, OBJECT, 0, given(BOX, OBJECT), generic, 3, 50, 50);
        x.variable(generic, BOX);
        called("BOX is its BOUND", x, OBJECT, 0, given(BOX, INT), AMBIGUOUS);
        int three = x.method(0, 0, BOX, VARIABLE, x.array(BOX), INT, true);
        x.variable(three, BOX);
        called("three of the same", x, OBJECT, 0, given(BOX, INT, BOX), AMBIGUOUS);
        called("nothing is given to the second one: it does not SUIT", x, OBJECT, 0, given(INT), AMBIGUOUS);
    }

    /** "Without just one: AMBIGUOUS": two that are BELOW each other are more SPECIAL, both. */
    private void specialEachBelowTheOther() {
        BoundWright x = new BoundWright();
        int list = x.kind(NEITHER, NONE, false);
        int any = x.of(list, ANY, 0);
        int ofObject = x.of(list, exact(OBJECT), 0);
        x.method(0, 0, any, NONE, NONE, INT, false);
        x.method(0, 0, x.of(list, out(OBJECT), 0), NONE, NONE, INT, false);
        int plain = x.method(0, 0, OBJECT, NONE, NONE, INT, false);
        called("both", x, OBJECT, 0, given(any), AMBIGUOUS);
        called("none of both", x, OBJECT, 0, given(BOX), plain, 1, 1, 50);
        called("NULL", x, OBJECT, 0, given(NULL), AMBIGUOUS);
        int exact = x.method(0, 0, ofObject, NONE, NONE, INT, false);
        called("one that is BELOW both", x, OBJECT, 0, given(ofObject), exact, 1, 1, 50);
        called("it does not SUIT", x, OBJECT, 0, given(any), AMBIGUOUS);
    }

    /** "Those of a PARAMETER are those of its BOUND", "ERASED of the RESULT as it is here": a PARAMETER's, too. */
    private void resultOnAParameter() {
        BoundWright x = new BoundWright();
        int list = x.kind(NEITHER, NONE, false);
        int user = x.kind(NEITHER, NEITHER, false);
        int first = x.parameter(user, 0);
        int second = x.parameter(user, 1);
        x.bound(user, 0, x.of(list, exact(second), 0));
        int get = x.method(list, 0, NONE, NONE, NONE, x.parameter(list, 0), false);
        int same = x.method(0, 1, VARIABLE, NONE, NONE, x.array(VARIABLE), false);
        called("the other PARAMETER, of OBJECT", x, first, 0, given(), get, 1, codeOfParameter(user, 1), 50);
        x.bound(user, 1, BOX);
        called("the other PARAMETER, of BOX", x, first, 0, given(), get, 1, codeOfParameter(user, 1), 50, 1);
        called("VARIABLE stands for a PARAMETER", x, OBJECT, 1, given(first), same, 1,
                codeOfArray(codeOfParameter(user, 0)), codeOfParameter(user, 0), 1000 + list);
        called("VARIABLE stands for the JOIN of BOUNDS", x, second, 1, given(second), same, 1,
                codeOfArray(codeOfParameter(user, 1)), codeOfParameter(user, 1), 1001);
    }

    // ---- faults

    /** BRIDGES: "if the ERASED FORMALS, or the ERASED RESULT, are not all the same": of ARRAYS, INT, and ARGUMENTS. */
    private void bridgesOfArraysAndResults() {
        BoundWright x = new BoundWright();
        int list = x.kind(NEITHER, NONE, false);
        int low = x.kind(NONE, NONE, false);
        int element = x.parameter(list, 0);
        int array = x.array(element);
        int ofElement = x.of(list, exact(element), 0);
        int ofBox = x.of(list, exact(BOX), 0);
        int boxes = x.array(BOX);
        x.extend(low, ofBox);
        x.method(list, 0, array, NONE, NONE, INT, false);
        x.method(list, 1, ofElement, NONE, NONE, ofElement, false);
        x.method(list, 2, BOX, ofElement, array, INT, false);
        int[] own = {x.method(low, 0, boxes, NONE, NONE, INT, false), x.method(low, 1, ofBox, NONE, NONE, ofBox, false),
            x.method(low, 2, BOX, ofBox, boxes, INT, true)};
        int[] due = {1, 0, 1};
        for (int k = 0; k < own.length; k++) {
            check.due("OVERRIDES, NAME " + k, x.ofMethod(own[k], 3), 1 << k);
            check.due("BRIDGES, NAME " + k, x.ofMethod(own[k], 5), due[k]);
        }
        check.due("of the class", x.ofKind(low, 6), 2);
        x.bound(list, 0, BOX);
        check.due("none with the BOUND BOX", x.many(4), 0);
    }

    /** faultsWithout(): "if it was not there": those above that it OVERRIDES, and those below, stay as they are. */
    private void withoutAMethodThatOverrides() {
        BoundWright x = new BoundWright();
        int middle = x.kind(NONE, NONE, false);
        int low = x.kind(NONE, NONE, false);
        x.extend(low, x.of(middle, 0, 0));
        int top = method(x, 0, 0, BOX, NONE, BOX);
        int between = method(x, middle, 0, BOX, NONE, OBJECT);
        int own = method(x, low, 0, BOX, NONE, OBJECT);
        faults("both are not BELOW that of OBJECT", x, 5, middle, between, 5, low, own);
        check.due("without the one between", x.faultsWithout(between), 1);
        check.due("without the one of OBJECT", x.faultsWithout(top), 0);
        check.due("without the last one", x.faultsWithout(own), 1);
        check.due("it still OVERRIDES both", x.ofMethod(own, 3), (1 << top) + (1 << between));
        check.due("its MEMBERS are the same", x.members(x.of(low, 0, 0), 0), 1 << own);
    }

    /** "first .. NONE without one", "a TYPE is given behind a NONE": NONE behind the last one is none, in each way. */
    private void callsWithoutAThirdOne() {
        BoundWright x = new BoundWright();
        int[] methods = {x.method(0, 0, NONE, NONE, NONE, INT, false), x.method(0, 0, INT, NONE, NONE, INT, false),
            x.method(0, 0, INT, INT, NONE, INT, false), x.method(0, 0, INT, INT, INT, INT, false)};
        check.due("none", x.call(NULL, 0, NONE, NONE, NONE, 0), methods[0]);
        check.due("one", x.call(INT, 0, INT, NONE, NONE, 0), methods[1]);
        check.due("two", x.call(VARIABLE, 0, INT, INT, NONE, 0), methods[2]);
        check.due("three", x.call(BOX, 0, INT, INT, INT, 0), methods[3]);
        check.argument("the first is missing", x, () -> x.call(BOX, 0, NONE, INT, INT, 0));
        check.argument("the second is missing", x, () -> x.call(BOX, 0, INT, NONE, INT, 4));
    }

    // ---- README.md

    /** The example of README.md, line by line: each line stands there, and answers what is said behind it. */
    private void readmeTellsTheTruth() throws IOException {
        String text = Files.readString(README);
        BoundWright x = new BoundWright();
        int list = x.kind(1, -1, false);
        told(text, "int list = x.kind(1, -1, false);", list, 2);
        int element = x.parameter(list, 0);
        told(text, "int element = x.parameter(list, 0);", element, 5);
        int ofBox = x.of(list, 3 * 3 + 0, 0);
        told(text, "int ofBox = x.of(list, 3 * 3 + 0, 0);", ofBox, 6);
        int ofObject = x.of(list, 3 * 2 + 0, 0);
        told(text, "int ofObject = x.of(list, 3 * 2 + 0, 0);", ofObject, 7);
        told(text, "x.isBelow(ofBox, ofObject);", x.isBelow(ofBox, ofObject) ? 1 : 0, 1);
        told(text, "x.join(ofBox, 3);", x.join(ofBox, 3), 50);
        int get = x.method(list, 0, -1, -1, -1, element, false);
        told(text, "int get = x.method(list, 0, -1, -1, -1, element, false);", get, 0);
        told(text, "x.call(ofBox, 0, -1, -1, -1, 0);", x.call(ofBox, 0, -1, -1, -1, 0), get);
        told(text, "x.call(ofBox, 0, -1, -1, -1, 2);", x.call(ofBox, 0, -1, -1, -1, 2), 51);
        told(text, "x.call(ofBox, 0, -1, -1, -1, 4);", x.call(ofBox, 0, -1, -1, -1, 4), 1);
        int put = x.method(list, 1, element, -1, -1, 2, false);
        told(text, "int put = x.method(list, 1, element, -1, -1, 2, false);", put, 1);
        told(text, "x.many(3);", x.many(3), 1);
        told(text, "x.fault(0, 0);", x.fault(0, 0), 3);
        for (java.lang.reflect.Method each : BoundWright.class.getDeclaredMethods()) {
            if (java.lang.reflect.Modifier.isPublic(each.getModifiers())) {
                check.due("README.md names " + each.getName(), text.contains("`" + each.getName() + "("), true);
            }
        }
    }

    private void told(String text, String line, int answer, int due) {
        check.due("README.md has " + line, text.contains("\n" + line), true);
        check.due("README.md, " + line, answer, due);
    }
}
