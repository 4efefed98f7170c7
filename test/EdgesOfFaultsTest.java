import java.util.ArrayList;
import java.util.List;

/**
 * Terms, section 6 (FAULTS and BRIDGES), and promises 19 to 21, 23 and 24: one test for each sentence that names a
 * boundary case.
 */
final class EdgesOfFaultsTest extends Promises {
    public static void main(String[] arguments) {
        EdgesOfFaultsTest test = new EdgesOfFaultsTest();
        test.faultNumbers();
        test.twoWaysOnce();
        test.waysToObject();
        test.twoWaysOfArguments();
        test.twoWaysOfTheSecondArgument();
        test.eachTypeThatItExtends();
        test.justAParameter();
        test.formalsAndResultKeep();
        test.smallerNumberInItsClass();
        test.classAboveThatIsNotOverridden();
        test.erasedToTheSame();
        test.resultBelow();
        test.resultOnce();
        test.resultByItsBound();
        test.allOfOneMethod();
        test.classByClass();
        test.asManyAsThereCanBe();
        test.bridgesAlikeCountOnce();
        test.bridgesOfEachMethod();
        test.manyNumbers();
        test.manyOfAFullObject();
        test.meanIsNotCut();
        test.withoutEachMethod();
        test.withoutTheLastOne();
        test.withoutWhatAnotherNeeds();
        test.digestOfANewObject();
        test.digestWrapsAround();
        test.check.end();
    }

    /** "k: a number, from 0", "if there is no such FAULT", "if what is not 0 to 2", "its METHOD (NONE for 1 and 2)". */
    private void faultNumbers() {
        BoundWright x = new BoundWright();
        for (int none : new int[] {0, -1, 1, MOST, LEAST}) {
            check.bounds("none is there, fault(" + none + ", 0)", x, () -> x.fault(none, 0));
            check.bounds("none is there, fault(" + none + ", 3)", x, () -> x.fault(none, 3));
        }
        int source = x.kind(OUT, NONE, false);
        int formal = x.parameter(source, 0);
        for (int count = 1; count <= METHODS; count++) {
            method(x, source, count % NAMES, formal, count > NAMES ? x.of(source, ANY, 0) : NONE, INT);
            int last = x.many(3) - 1;
            check.due("the last of " + (last + 1), x.fault(last, 2), count - 1);
            check.bounds("behind the last of " + (last + 1), x, () -> x.fault(last + 1, 0));
        }
        for (int wrong : new int[] {-1, 3, MOST, LEAST}) {
            check.argument("fault(0, " + wrong + ")", x, () -> x.fault(0, wrong));
            check.bounds("fault(-1, " + wrong + ")", x, () -> x.fault(-1, wrong));
        }
    }

    /** "1, once, if a CLASS ABOVE it is reached by two ways": also if two of them are, or one by three ways. */
    private void twoWaysOnce() {
        BoundWright x = new BoundWright();
        int upper = x.kind(NEITHER, NONE, false);
        int list = x.kind(NEITHER, NONE, false);
        x.extend(list, x.of(upper, exact(x.parameter(list, 0)), 0));
        int[] ways = new int[3];
        int[] arguments = {exact(BOX), exact(OBJECT), ANY};
        for (int k = 0; k < 3; k++) {
            ways[k] = x.kind(NONE, NONE, false);
            x.extend(ways[k], x.of(list, arguments[k], 0));
        }
        int low = x.kind(NONE, NONE, false);
        x.extend(low, x.of(ways[0], 0, 0));
        faults("one way", x);
        x.extend(low, x.of(ways[1], 0, 0));
        faults("two ways to two of them", x, 1, low, NONE);
        x.extend(low, x.of(ways[2], 0, 0));
        faults("three ways", x, 1, low, NONE);
        int same = x.kind(NONE, NONE, false);
        x.extend(same, x.of(ways[0], 0, 0));
        x.extend(same, x.of(list, exact(BOX), 0));
        x.extend(same, x.of(upper, exact(BOX), 0));
        faults("three ways with the same", x, 1, low, NONE);
        int last = x.kind(NONE, NONE, false);
        x.extend(last, x.of(low, 0, 0));
        faults("one way to that: two ways from there", x, 1, low, NONE, 1, last, NONE);
    }

    /** OBJECT has no ARGUMENTS: each way to it is the same, whether it was told or not. */
    private void waysToObject() {
        BoundWright x = new BoundWright();
        int one = plainType(x);
        int other = plainType(x);
        int low = x.kind(NONE, NONE, false);
        x.extend(3, OBJECT);
        x.extend(low, OBJECT);
        x.extend(low, one);
        x.extend(low, other);
        faults("three ways", x);
    }

    /** "with ARGUMENTS that are not the same": another MODE or ANY is not, also if each is BELOW the other one. */
    private void twoWaysOfArguments() {
        int[] arguments = {ANY, exact(OBJECT), out(OBJECT), in(OBJECT), exact(BOX), 15};
        for (int one : arguments) {
            for (int other : arguments) {
                BoundWright x = new BoundWright();
                int list = x.kind(OUT, NONE, false);
                check.due("a TYPE that is told", exact(x.array(INT)), 15);
                int way = x.kind(NONE, NONE, false);
                int low = x.kind(NONE, NONE, false);
                x.extend(way, x.of(list, one, 0));
                x.extend(low, x.of(list, other, 0));
                x.extend(low, x.of(way, 0, 0));
                check.due("ARGUMENTS " + one + " and " + other, x.many(3), one == other ? 0 : 1);
            }
        }
    }

    /** "(its PARAMETERS as ARGUMENTS, EXACT)": both of them, and of what is reached the second ARGUMENT, too. */
    private void twoWaysOfTheSecondArgument() {
        BoundWright x = new BoundWright();
        int pair = x.kind(NEITHER, NEITHER, false);
        int way = x.kind(NEITHER, NEITHER, false);
        x.extend(way, x.of(pair, exact(x.parameter(way, 1)), exact(x.parameter(way, 0))));
        int[] lows = new int[3];
        for (int k = 0; k < 3; k++) {
            lows[k] = x.kind(NEITHER, NEITHER, false);
            int first = x.parameter(lows[k], 0);
            int second = x.parameter(lows[k], 1);
            x.extend(lows[k], x.of(way, exact(first), exact(second)));
            x.extend(lows[k], x.of(pair, exact(k == 1 ? first : second), exact(k == 2 ? second : first)));
        }
        faults("turned is the same", x, 1, lows[1], NONE, 1, lows[2], NONE);
    }

    /** "2 for each TYPE that it EXTENDS that does not KEEP its BOUNDS": none, and up to three. */
    private void eachTypeThatItExtends() {
        BoundWright x = new BoundWright();
        int low = 5;
        int[] bounded = new int[3];
        for (int k = 0; k < 3; k++) {
            bounded[k] = x.kind(NEITHER, k == 2 ? NEITHER : NONE, false);
            x.bound(bounded[k], k == 2 ? 1 : 0, BOX);
        }
        check.due("the class", x.kind(NEITHER, NONE, false), low);
        int parameter = x.parameter(low, 0);
        faults("OBJECT alone", x);
        x.extend(low, x.of(bounded[0], exact(parameter), 0));
        faults("one", x, 2, low, NONE);
        x.extend(low, x.of(bounded[1], out(OBJECT), 0));
        faults("two", x, 2, low, NONE, 2, low, NONE);
        x.extend(low, x.of(bounded[2], exact(parameter), exact(parameter)));
        faults("three", x, 2, low, NONE, 2, low, NONE, 2, low, NONE);
        x.bound(low, 0, BOX);
        faults("one of three", x, 2, low, NONE);
        x.bound(bounded[1], 0, OBJECT);
        faults("none of three", x);
    }

    /** "3 if a FORMAL is just a PARAMETER of it that is OUT, or the RESULT just one that is IN": in each place. */
    private void justAParameter() {
        for (int variance = NEITHER; variance <= IN; variance++) {
            for (int parameter = 0; parameter < 2; parameter++) {
                BoundWright x = new BoundWright();
                int kind = x.kind(parameter == 0 ? variance : NEITHER, parameter == 1 ? variance : NEITHER, false);
                int type = x.parameter(kind, parameter);
                int ofType = x.of(kind, exact(type), exact(type));
                x.method(kind, 0, INT, ofType, x.array(type), ofType, true);
                x.method(kind, 1, INT, BOX, OBJECT, x.array(type), false);
                check.due("not just one", x.many(3), 0);
                int formal = variance == OUT ? 1 : 0;
                x.method(kind, 2, type, BOX, INT, INT, false);
                check.due("the first FORMAL, VARIANCE " + variance, x.many(3), formal);
                x.method(kind, 3, BOX, type, INT, INT, false);
                check.due("the second FORMAL, VARIANCE " + variance, x.many(3), 2 * formal);
                x.method(kind, 4, BOX, INT, type, INT, false);
                check.due("the third FORMAL, VARIANCE " + variance, x.many(3), 3 * formal);
                x.method(kind, 5, type, type, type, INT, false);
                check.due("all three, once, VARIANCE " + variance, x.many(3), 4 * formal);
                x.method(kind, 6, NONE, NONE, NONE, type, false);
                check.due("the RESULT, VARIANCE " + variance, x.many(3), 4 * formal + (variance == IN ? 1 : 0));
                for (int k = 0; k < x.many(3); k++) {
                    check.due("which one", x.fault(k, 0), 3);
                }
            }
        }
    }

    /** "6 if a FORMAL, or the RESULT, does not KEEP its BOUNDS": in each place, once. */
    private void formalsAndResultKeep() {
        BoundWright x = new BoundWright();
        int boxes = x.kind(NEITHER, NONE, false);
        x.bound(boxes, 0, BOX);
        int bad = x.array(x.of(boxes, in(x.of(boxes, out(OBJECT), 0)), 0));
        int good = x.of(boxes, in(OBJECT), 0);
        x.method(0, 0, good, good, good, good, false);
        x.method(0, 1, bad, good, good, good, false);
        x.method(0, 2, good, bad, good, good, false);
        x.method(0, 3, good, good, bad, good, true);
        x.method(0, 4, good, good, good, bad, false);
        x.method(0, 5, bad, bad, bad, bad, true);
        x.method(0, 6, NONE, NONE, NONE, bad, false);
        faults("each, once", x, 6, 0, 1, 6, 0, 2, 6, 0, 3, 6, 0, 4, 6, 0, 5, 6, 0, 6);
        x.bound(boxes, 0, OBJECT);
        faults("none", x);
    }

    /** "4 if another one of it with a smaller number ... has the same NAME, and as many FORMALS": 0 of them, too. */
    private void smallerNumberInItsClass() {
        BoundWright x = new BoundWright();
        for (int name = 0; name < 2; name++) {
            method(x, 1, name, NONE, NONE, INT);
            method(x, 1, name, BOX, NONE, INT);
            method(x, 1, name, BOX, BOX, INT);
            x.method(1, name, BOX, BOX, BOX, INT, false);
        }
        faults("another NAME, or as many FORMALS", x);
        method(x, 1, 0, NONE, NONE, BOX);
        faults("without FORMALS", x, 4, 1, 8);
        x.method(1, 1, BOX, BOX, BOX, INT, false);
        faults("with three", x, 4, 1, 8, 4, 1, 9);
        method(x, 1, 0, NONE, NONE, OBJECT);
        faults("two with smaller numbers, once", x, 4, 1, 8, 4, 1, 9, 4, 1, 10);
        x.kind(NONE, NONE, false);
        method(x, 2, 0, NONE, NONE, INT);
        faults("of another CLASS that is not above", x, 4, 1, 8, 4, 1, 9, 4, 1, 10);
    }

    /** "or one of a CLASS ABOVE it that it does not OVERRIDE": whatever its number is; not of a CLASS below. */
    private void classAboveThatIsNotOverridden() {
        BoundWright x = new BoundWright();
        int list = x.kind(NEITHER, NONE, false);
        int low = x.kind(NEITHER, NONE, false);
        int listOf = x.of(list, exact(x.parameter(list, 0)), 0);
        int lows = x.parameter(low, 0);
        x.extend(low, x.of(list, exact(lows), 0));
        int own = method(x, low, 0, x.of(list, ANY, 0), NONE, INT);
        faults("none above", x);
        int above = method(x, list, 0, listOf, NONE, INT);
        faults("one above with a greater number", x, 4, low, own);
        check.due("it does not override it", x.ofMethod(own, 3), 0);
        int over = method(x, low, 1, x.of(list, exact(lows), 0), NONE, INT);
        method(x, list, 1, listOf, NONE, INT);
        check.due("that one overrides", x.ofMethod(over, 3) != 0, true);
        faults("one that overrides is none", x, 4, low, own);
        method(x, 0, 1, x.of(list, in(BOX), 0), NONE, INT);
        faults("but there is another one above it", x, 4, list, 3, 4, low, own, 4, low, over);
        check.due("the one above has none by one below", x.fault(1, 2) == own && above == 1, true);
    }

    /** "each ERASED to the same": a PARAMETER by its BOUND, VARIABLE by that of the METHOD, ARRAYS as many. */
    private void erasedToTheSame() {
        BoundWright x = new BoundWright();
        int list = x.kind(NEITHER, NONE, false);
        int element = x.parameter(list, 0);
        int variable = method(x, list, 0, VARIABLE, x.array(VARIABLE), INT);
        int plain = method(x, list, 0, OBJECT, x.array(OBJECT), INT);
        int parameter = method(x, list, 0, element, x.array(element), INT);
        faults("all of OBJECT", x, 4, list, plain, 4, list, parameter);
        x.bound(list, 0, BOX);
        faults("a PARAMETER of BOX", x, 4, list, plain);
        x.variable(variable, BOX);
        faults("VARIABLE of BOX, too", x, 4, list, parameter);
        int arrays = method(x, list, 0, element, element, INT);
        faults("an ARRAY less", x, 4, list, parameter);
        method(x, list, 0, element, x.array(x.array(BOX)), INT);
        faults("an ARRAY more", x, 4, list, parameter);
        method(x, list, 0, BOX, INT, INT);
        int ofBox = method(x, list, 0, BOX, BOX, INT);
        faults("BOX, and INT", x, 4, list, parameter, 4, list, ofBox);
        check.due("with that", arrays, 3);
    }

    /** "5 if it OVERRIDES one of which the RESULT .. is not such that its own one is BELOW it": each sort. */
    private void resultBelow() {
        int ints = 5;
        int[] results = {INT, OBJECT, BOX, VARIABLE, ints};
        String[] below = {"10000", "01000", "01100", "01010", "01001"};
        for (int one = 0; one < results.length; one++) {
            for (int other = 0; other < results.length; other++) {
                BoundWright x = new BoundWright();
                check.due("an ARRAY", x.array(INT), ints);
                method(x, 0, 0, NONE, NONE, results[other]);
                method(x, 1, 0, NONE, NONE, results[one]);
                check.due("RESULTS " + results[one] + " and " + results[other], x.many(3),
                        below[one].charAt(other) == '1' ? 0 : 1);
            }
        }
    }

    /** "(once)": also if it OVERRIDES two of which the RESULT is such. */
    private void resultOnce() {
        BoundWright x = new BoundWright();
        int upper = x.kind(NONE, NONE, false);
        int low = x.kind(NONE, NONE, false);
        x.extend(low, x.of(upper, 0, 0));
        method(x, 0, 0, NONE, NONE, INT);
        method(x, upper, 0, NONE, NONE, BOX);
        int own = method(x, low, 0, NONE, NONE, OBJECT);
        check.due("it overrides two", x.ofMethod(own, 3), 3);
        faults("both, once", x, 5, upper, 1, 5, low, own);
    }

    /** The RESULT can be BELOW it by a BOUND that is told later, and no longer be so. */
    private void resultByItsBound() {
        BoundWright x = new BoundWright();
        int list = x.kind(NEITHER, NONE, false);
        method(x, 0, 0, NONE, NONE, BOX);
        int own = method(x, list, 0, NONE, NONE, x.parameter(list, 0));
        faults("OBJECT", x, 5, list, own);
        x.bound(list, 0, BOX);
        faults("BOX", x);
        x.bound(list, 0, OBJECT);
        faults("OBJECT again", x, 5, list, own);
    }

    /** "Of one METHOD all that are so, in this order": 3, 6, 4, 5. */
    private void allOfOneMethod() {
        BoundWright x = new BoundWright();
        int source = x.kind(OUT, NONE, false);
        int low = x.kind(OUT, NONE, false);
        x.bound(source, 0, BOX);
        int bad = x.of(source, exact(OBJECT), 0);
        int lows = x.parameter(low, 0);
        method(x, source, 0, x.parameter(source, 0), bad, BOX);
        method(x, low, 0, lows, bad, BOX);
        method(x, low, 0, lows, bad, OBJECT);
        faults("before it extends anything", x, 3, source, 0, 6, source, 0, 3, low, 1, 6, low, 1, 3, low, 2, 6, low, 2,
                4, low, 2);
        x.extend(low, x.of(source, exact(lows), 0));
        faults("all six sorts but 1", x, 3, source, 0, 6, source, 0, 2, low, NONE, 3, low, 1, 6, low, 1, 3, low, 2,
                6, low, 2, 4, low, 2, 5, low, 2);
    }

    /** "FAULTS, CLASS by CLASS, of each: ..., then METHOD by METHOD of it": not as they were told. */
    private void classByClass() {
        BoundWright x = new BoundWright();
        fillKinds(x, KINDS - 1);
        int last = x.kind(OUT, NONE, false);
        int element = x.parameter(last, 0);
        x.bound(last, 0, BOX);
        int bad = x.of(last, exact(OBJECT), 0);
        method(x, last, 1, element, NONE, INT);
        method(x, 12, 1, bad, NONE, INT);
        method(x, last, 0, element, NONE, INT);
        method(x, 0, 0, bad, NONE, INT);
        method(x, 1, 1, bad, NONE, INT);
        faults("by their classes", x, 6, 0, 3, 6, 1, 4, 6, 12, 1, 3, last, 0, 3, last, 2);
        check.due("of the last class", x.ofKind(last, 7), 2);
        check.due("of OBJECT", x.ofKind(0, 7), 1);
        check.due("of one that has none", x.ofKind(2, 7), 0);
    }

    /** As many FAULTS as there can be of METHODS, and of CLASSES: all are told, and counted. */
    private void asManyAsThereCanBe() {
        BoundWright x = new BoundWright();
        int source = x.kind(OUT, NONE, false);
        x.bound(source, 0, BOX);
        int bad = x.of(source, exact(OBJECT), 0);
        int element = x.parameter(source, 0);
        int way = x.kind(NONE, NONE, false);
        x.extend(way, bad);
        int low = x.kind(OUT, NONE, false);
        int lows = x.parameter(low, 0);
        x.extend(low, x.of(source, exact(lows), 0));
        method(x, source, 0, element, bad, BOX);
        for (int method = 1; method < METHODS; method++) {
            method(x, low, 0, lows, bad, OBJECT);
        }
        int ofMethods = 2 + 4 * (METHODS - 1) - 1;
        check.due("2 of two classes, and those of METHODS", x.many(3), 2 + ofMethods);
        int outOfObject = x.of(source, out(OBJECT), 0);
        int wayType = x.of(way, 0, 0);
        int lowAny = x.of(low, ANY, 0);
        for (int kind = 5; kind < KINDS; kind++) {
            x.kind(NONE, NONE, false);
            x.extend(kind, outOfObject);
            x.extend(kind, wayType);
            x.extend(kind, lowAny);
        }
        check.due("1 and 2 of 9 classes more", x.many(3), 2 + ofMethods + 2 * 9);
        int sum = 0;
        for (int kind = 0; kind < KINDS; kind++) {
            sum += x.ofKind(kind, 7);
        }
        check.due("the sum over all classes", sum, x.many(3));
        check.due("of low", x.ofKind(low, 7), 1 + 4 * (METHODS - 1) - 1);
        check.due("the last one is a 2", x.fault(x.many(3) - 1, 0), 2);
        check.due("the last one but one is a 1", x.fault(x.many(3) - 2, 0), 1);
        check.bounds("there is none behind it", x, () -> x.fault(2 + ofMethods + 2 * 9, 0));
        check.due("without the first one", x.faultsWithout(0), x.many(3) - 2 - 19);
        check.due("without the last one", x.faultsWithout(19), x.many(3) - 4);
    }

    /** BRIDGES: "those that are ERASED alike (FORMALS and RESULT) count once for one METHOD". */
    private void bridgesAlikeCountOnce() {
        BoundWright x = new BoundWright();
        int[] kinds = new int[4];
        int[] parameters = new int[4];
        for (int k = 0; k < 4; k++) {
            kinds[k] = x.kind(NEITHER, NONE, false);
            parameters[k] = x.parameter(kinds[k], 0);
        }
        int low = x.kind(NONE, NONE, false);
        for (int k = 0; k < 3; k++) {
            x.extend(low, x.of(kinds[k], exact(BOX), 0));
        }
        int over = method(x, low, 0, BOX, NONE, BOX);
        check.due("it overrides none", x.ofMethod(over, 5), 0);
        method(x, kinds[0], 0, parameters[0], NONE, BOX);
        check.due("one with another FORMAL", x.ofMethod(over, 5), 1);
        method(x, kinds[1], 0, parameters[1], NONE, BOX);
        check.due("two that are ERASED alike", x.ofMethod(over, 5), 1);
        method(x, kinds[2], 0, parameters[2], NONE, OBJECT);
        check.due("one with another RESULT besides", x.ofMethod(over, 5), 2);
        method(x, 0, 0, BOX, NONE, OBJECT);
        check.due("one with just another RESULT", x.ofMethod(over, 5), 3);
        x.bound(kinds[0], 0, BOX);
        check.due("one is ERASED as it is itself: the other alike stays", x.ofMethod(over, 5), 3);
        x.bound(kinds[1], 0, BOX);
        check.due("both are ERASED as it is itself", x.ofMethod(over, 5), 2);
        check.due("of its CLASS", x.ofKind(low, 6), 2);
        check.due("of a CLASS that it does not extend", x.ofKind(kinds[3], 6), 0);
        check.due("of all", x.many(4), 2);
    }

    /** "BRIDGES of a CLASS: for each METHOD of it, and each that it OVERRIDES": each METHOD counts its own. */
    private void bridgesOfEachMethod() {
        BoundWright x = new BoundWright();
        int list = x.kind(NEITHER, NONE, false);
        int low = x.kind(NONE, NONE, false);
        int last = x.kind(NONE, NONE, false);
        x.extend(low, x.of(list, exact(BOX), 0));
        x.extend(last, x.of(low, 0, 0));
        method(x, list, 0, x.parameter(list, 0), NONE, OBJECT);
        for (int count = 1; count <= 3; count++) {
            method(x, low, 0, BOX, NONE, BOX);
            check.due(count + " METHODS of the class", x.ofKind(low, 6), count);
        }
        int over = method(x, last, 0, BOX, NONE, INT);
        check.due("of one below: those of the class are alike", x.ofMethod(over, 5), 2);
        check.due("its class", x.ofKind(last, 6), 2);
        check.due("of all CLASSES", x.many(4), 5);
        check.due("of OBJECT and list", x.ofKind(0, 6) + x.ofKind(list, 6), 0);
    }

    /** "0 CLASSES, 1 TYPES, ...", "if what is not 0 to 6". */
    private void manyNumbers() {
        BoundWright x = new BoundWright();
        int[] due = {2, 5, 0, 0, 0, 0, 5};
        for (int what = 0; what < due.length; what++) {
            check.due("many(" + what + ")", x.many(what), due[what]);
        }
        for (int wrong : new int[] {-1, 7, MOST, LEAST}) {
            check.argument("many(" + wrong + ")", x, () -> x.many(wrong));
        }
    }

    /** The same when all is full: 14 CLASSES, 33 TYPES, 20 METHODS. */
    private void manyOfAFullObject() {
        BoundWright x = new BoundWright();
        int pair = x.kind(NEITHER, NEITHER, true);
        while (x.many(0) < KINDS) {
            x.kind(NONE, NONE, true);
        }
        fillTypes(x, pair, TYPES);
        fillMethods(x, 0, METHODS);
        int[] due = {KINDS, TYPES, METHODS, METHODS - 1, 0, KINDS - 2};
        for (int what = 0; what < due.length; what++) {
            check.due("full, many(" + what + ")", x.many(what), due[what]);
        }
    }

    /** "the mean number of MEMBERS of a CLASS ..., not cut": none, 20 of each, and of the last of 14 alone. */
    private void meanIsNotCut() {
        BoundWright x = new BoundWright();
        mean("none", x, 0.0);
        fillKinds(x, KINDS);
        mean("none of 14", x, 0.0);
        method(x, 13, 0, NONE, NONE, INT);
        mean("one of the last of 14", x, 1.0 / 14);
        while (x.many(2) < METHODS) {
            method(x, 13, 0, NONE, NONE, INT);
        }
        mean("20 of the last of 14", x, 20.0 / 14);
        BoundWright y = new BoundWright();
        fillMethods(y, 0, METHODS);
        fillKinds(y, KINDS);
        mean("20 of each", y, 20.0);
        BoundWright z = new BoundWright();
        z.kind(NONE, NONE, false);
        method(z, 0, 0, NONE, NONE, INT);
        method(z, 0, 1, NONE, NONE, INT);
        method(z, 1, 0, NONE, NONE, INT);
        method(z, 2, 2, NONE, NONE, INT);
        mean("2, 2 and 3", z, 7.0 / 3);
    }

    /** "how many FAULTS there would be, if it was not there": of each METHOD, its own, and those of others by it. */
    private void withoutEachMethod() {
        BoundWright x = new BoundWright();
        int low = x.kind(OUT, NONE, false);
        int element = x.parameter(low, 0);
        x.bound(low, 0, BOX);
        int bad = x.of(low, exact(OBJECT), 0);
        int[][] told = {{0, 0, BOX, BOX}, {low, 0, BOX, OBJECT}, {low, 0, element, BOX}, {low, 1, bad, BOX},
            {low, 1, x.of(low, ANY, 0), BOX}, {low, 1, bad, INT}};
        for (int[] each : told) {
            method(x, each[0], each[1], each[2], NONE, each[3]);
        }
        faults("with all", x, 5, low, 1, 3, low, 2, 4, low, 2, 6, low, 3, 4, low, 4, 6, low, 5, 4, low, 5);
        int[] due = {6, 6, 5, 5, 6, 5};
        for (int method = 0; method < due.length; method++) {
            check.due("faultsWithout(" + method + ")", x.faultsWithout(method), due[method]);
        }
        check.due("nothing is changed", x.many(3), 7);
        check.due("no METHOD is gone", x.many(2), told.length);
    }

    /** "Throws IndexOutOfBoundsException if there is no such METHOD": the first, the last, and the next. */
    private void withoutTheLastOne() {
        BoundWright x = new BoundWright();
        check.bounds("none is there", x, () -> x.faultsWithout(0));
        fillMethods(x, 5, METHODS);
        check.due("with all", x.many(3), METHODS - 1);
        for (int method = 0; method < METHODS; method++) {
            check.due("without " + method, x.faultsWithout(method), METHODS - 2);
        }
        for (int none : new int[] {-1, METHODS, MOST, LEAST}) {
            check.bounds("faultsWithout(" + none + ")", x, () -> x.faultsWithout(none));
        }
        BoundWright y = new BoundWright();
        method(y, 0, 0, NONE, NONE, INT);
        check.due("the only one", y.faultsWithout(0), 0);
    }

    /** FAULTS 4 and 5 of another METHOD go only if there is no other one by which they are so. */
    private void withoutWhatAnotherNeeds() {
        BoundWright x = new BoundWright();
        int upper = x.kind(NONE, NONE, false);
        int low = x.kind(NONE, NONE, false);
        x.extend(low, x.of(upper, 0, 0));
        int object = method(x, 0, 0, NONE, NONE, INT);
        int own = method(x, low, 0, NONE, NONE, BOX);
        faults("5", x, 5, low, own);
        check.due("5 goes", x.faultsWithout(object), 0);
        int middle = method(x, upper, 0, NONE, NONE, INT);
        faults("5 by two", x, 5, low, own);
        check.due("5 stays by the other one", x.faultsWithout(object), 1);
        check.due("5 stays by the first one", x.faultsWithout(middle), 1);
        int second = method(x, low, 0, NONE, NONE, INT);
        int third = method(x, low, 0, NONE, NONE, INT);
        faults("4 twice", x, 5, low, own, 4, low, second, 4, low, third);
        check.due("one of them goes, and the third one's stays", x.faultsWithout(second), 2);
        check.due("the first one's go", x.faultsWithout(own), 1);
        check.due("its own goes", x.faultsWithout(third), 2);
    }

    /** "A number d starts with 58134; for each of the following numbers v, d becomes d * 31 + v": of a new object. */
    private void digestOfANewObject() {
        int[] all = {
            2, 5, 0, 0, 0, 0, 5,
            0, 0, 0, 2, 0, 0, 0, 0, 1,
            0, 1, 1, 0, 0, 0, 0, 0, 0,
            0, 100, 1, 1, 1, 0,
            1, 101, 2, 1, 1, 0, 51,
            2, 0, 50, 1, 1, 0, 50, 50,
            2, 1, 51, 1, 1, 0, 51, 51, 50,
            3, 0, 3, 0, 1, 0, 50, 3, 50, 50,
        };
        List<Long> numbers = new ArrayList<>();
        for (int each : all) {
            numbers.add((long) each);
        }
        check.due("digest()", new BoundWright().digest(), Digest.summed(numbers));
    }

    /** "which wraps around as a 64-bit integer": with METHODS and FAULTS, of which some numbers are NONE. */
    private void digestWrapsAround() {
        BoundWright x = new BoundWright();
        int source = x.kind(OUT, IN, true);
        int element = x.parameter(source, 0);
        int bad = x.of(source, exact(element), in(BOX));
        x.bound(source, 0, BOX);
        int low = x.kind(NONE, NONE, true);
        x.extend(low, x.of(source, exact(OBJECT), ANY));
        method(x, source, 0, element, bad, bad);
        method(x, low, 0, VARIABLE, x.of(source, ANY, ANY), INT);
        faults("one with NONE", x, 3, source, 0, 2, low, NONE);
        check.due("digest()", x.digest(), Digest.of(x));
        fillMethods(x, 7, METHODS);
        fillKinds(x, KINDS);
        check.due("digest() then", x.digest(), Digest.of(x));
    }
}
